/-! how the machine's heap and locals hold the pure ones -/
theorem tm_lk_mem : ∀ {l : List (Nat × Nat × Nat × Nat × Nat)} {o i c d : Nat}, tm_lk l o i = some (c, d) → ∃ t, (o, i, c, d, t) ∈ l := by
  intro l
  induction l with
  | nil => intro o i c d h; simp [tm_lk] at h
  | cons q l ih =>
    intro o i c d h
    obtain ⟨a, b, e, f, t⟩ := q
    simp only [tm_lk] at h
    split at h
    · rename_i he
      obtain ⟨rfl, rfl⟩ := he
      simp only [Option.some.injEq, Prod.mk.injEq] at h
      obtain ⟨rfl, rfl⟩ := h
      exact ⟨t, List.mem_cons_self⟩
    · obtain ⟨t, h⟩ := ih h
      exact ⟨t, List.mem_cons_of_mem _ h⟩
theorem tm_lki_mem : ∀ {l : List (Nat × Nat × Int32 × Nat)} {o i : Nat} {c : Int32}, tm_lki l o i = some c → ∃ t, (o, i, c, t) ∈ l := by
  intro l
  induction l with
  | nil => intro o i c h; simp [tm_lki] at h
  | cons q l ih =>
    intro o i c h
    obtain ⟨a, b, e, t⟩ := q
    simp only [tm_lki] at h
    split at h
    · rename_i he
      obtain ⟨rfl, rfl⟩ := he
      simp only [Option.some.injEq] at h
      subst h
      exact ⟨t, List.mem_cons_self⟩
    · obtain ⟨t, h⟩ := ih h
      exact ⟨t, List.mem_cons_of_mem _ h⟩
theorem tm_lkl_mem : ∀ {l : List (Nat × Nat × Int64 × Nat)} {o i : Nat} {c : Int64}, tm_lkl l o i = some c → ∃ t, (o, i, c, t) ∈ l := by
  intro l
  induction l with
  | nil => intro o i c h; simp [tm_lkl] at h
  | cons q l ih =>
    intro o i c h
    obtain ⟨a, b, e, t⟩ := q
    simp only [tm_lkl] at h
    split at h
    · rename_i he
      obtain ⟨rfl, rfl⟩ := he
      simp only [Option.some.injEq] at h
      subst h
      exact ⟨t, List.mem_cons_self⟩
    · obtain ⟨t, h⟩ := ih h
      exact ⟨t, List.mem_cons_of_mem _ h⟩
theorem tm_ki_ok {o i : Nat} {c : Int32} (h : tm_lki tm_ki o i = some c) : Cond.constant (tm_cn o) i c ∈ tm_gw := by
  obtain ⟨t, h⟩ := tm_lki_mem h
  have h1 := List.all_eq_true.mp tm_ki_all _ h
  exact tm_in t (of_decide_eq_true h1) rfl
theorem tm_kl_ok {o i : Nat} {c : Int64} (h : tm_lkl tm_kl o i = some c) : Cond.constantLong (tm_cn o) i c ∈ tm_gw := by
  obtain ⟨t, h⟩ := tm_lkl_mem h
  have h1 := List.all_eq_true.mp tm_kl_all _ h
  exact tm_in t (of_decide_eq_true h1) rfl
theorem tm_fl_ok {o i c k : Nat} (h : tm_lk tm_fl o i = some (c, k)) : ∃ C T N, vwCl[c]? = some (C, T, N) ∧ k < N ∧ Cond.fieldLink (tm_cn o) i (T k).1 (T k).2.1 (T k).2.2.1 ∈ tm_gw := by
  obtain ⟨t, h⟩ := tm_lk_mem h
  have h1 := List.all_eq_true.mp tm_chkF_all _ h
  unfold tm_chkF at h1
  dsimp only at h1
  split at h1
  · rename_i C T N he
    simp only [Bool.and_eq_true, decide_eq_true_eq] at h1
    exact ⟨C, T, N, he, h1.1, tm_in t h1.2 rfl⟩
  · cases h1
theorem tm_cl_ok {o i c n : Nat} (h : tm_lk tm_cl o i = some (c, n)) : ∃ C T N, vwCl[c]? = some (C, T, N) ∧ N = n ∧ Cond.classLink (tm_cn o) i C ∈ tm_gw ∧ Cond.instantiable C N ∈ tm_gw ∧ Cond.initialized C ∈ tm_gw := by
  obtain ⟨t, h⟩ := tm_lk_mem h
  have h1 := List.all_eq_true.mp tm_chkC_all _ h
  unfold tm_chkC at h1
  dsimp only at h1
  split at h1
  · rename_i C T N he
    simp only [Bool.and_eq_true, decide_eq_true_eq] at h1
    exact ⟨C, T, N, he, h1.1.1.1.1, tm_in _ h1.1.1.2 rfl, tm_in _ h1.1.2 rfl, tm_in _ h1.2 rfl⟩
  · cases h1
theorem tm_ml_ok0 {o i y : Nat} (h : tm_lk tm_ml o i = some (0, y)) : y < 180 ∧ Cond.methodLink (tm_cn o) i (mY y) ∈ tm_gw := by
  obtain ⟨t, h⟩ := tm_lk_mem h
  have h1 := List.all_eq_true.mp tm_chkM_all _ h
  simp only [tm_chkM, if_pos, Bool.and_eq_true, decide_eq_true_eq] at h1
  exact ⟨h1.1, tm_in t h1.2 rfl⟩
theorem tm_ml_ok1 {o i y : Nat} (h : tm_lk tm_ml o i = some (1, y)) : y < 180 ∧ Cond.methodLinkNest (tm_cn o) i (mY y) "TermRules" ∈ lw_tbl := by
  obtain ⟨t, h⟩ := tm_lk_mem h
  have h1 := List.all_eq_true.mp tm_chkM_all _ h
  simp [tm_chkM] at h1
  exact ⟨h1.1, List.mem_of_getElem? h1.2⟩
theorem tm_ml_ok2 {o i y : Nat} (h : tm_lk tm_ml o i = some (2, y)) : Cond.methodLink (tm_cn o) i Lib.objectInit ∈ tm_gw := by
  obtain ⟨t, h⟩ := tm_lk_mem h
  have h1 := List.all_eq_true.mp tm_chkM_all _ h
  simp [tm_chkM] at h1
  exact tm_in t h1 rfl
theorem tm_ml_ok3 {o i y : Nat} (h : tm_lk tm_ml o i = some (3, y)) : Cond.methodLink (tm_cn o) i arraycopyName ∈ tm_gw := by
  obtain ⟨t, h⟩ := tm_lk_mem h
  have h1 := List.all_eq_true.mp tm_chkM_all _ h
  simp [tm_chkM] at h1
  exact tm_in t h1 rfl
theorem tm_ml_ok4 {o i y : Nat} (h : tm_lk tm_ml o i = some (4, y)) : Cond.methodLink (tm_cn o) i Lib.Math.min.name ∈ tm_gw := by
  obtain ⟨t, h⟩ := tm_lk_mem h
  have h1 := List.all_eq_true.mp tm_chkM_all _ h
  simp [tm_chkM] at h1
  exact tm_in t h1 rfl
theorem tm_ml_ok5 {o i y : Nat} (h : tm_lk tm_ml o i = some (5, y)) : Cond.methodLink (tm_cn o) i Lib.Math.max.name ∈ tm_gw := by
  obtain ⟨t, h⟩ := tm_lk_mem h
  have h1 := List.all_eq_true.mp tm_chkM_all _ h
  simp [tm_chkM] at h1
  exact tm_in t h1 rfl
/-- what the tables say of a method that is called -/
theorem tm_m_ok {y : Nat} (hy : y < 180) : Cond.initialized (mY y).cls ∈ tm_gw ∧ (mY y).cls = tm_cn (mO y) ∧ plainName (mY y).cls = true ∧ ((mY y).cls ≠ "java/lang/invoke/MethodHandle" ∧ (mY y).cls ≠ "java/lang/invoke/VarHandle") ∧ (parseMethodDescriptor (mY y).desc).map (fun d => d.parameters.length) = some (mA y) ∧ (mK y = 1 → Cond.static (mY y) ∈ tm_gw) ∧ (mK y = 0 → Cond.instanceMethod (mY y) ∈ tm_gw ∧ Cond.selects (mY y).cls (mY y) (mY y) ∈ tm_gw) ∧ (mK y = 2 → Cond.instanceMethod (mY y) ∈ tm_gw ∧ (mY y).name = "<init>" ∧ mT y = none) := by
  have h1 := List.all_eq_true.mp tm_chk_all y (List.mem_range.mpr hy)
  unfold tm_chk at h1
  generalize tm_pos.getD y (0, 0, 0) = q at h1
  obtain ⟨i, a, s⟩ := q
  simp only [Bool.and_eq_true, decide_eq_true_eq] at h1
  obtain ⟨⟨⟨⟨⟨⟨g1, g2⟩, g3⟩, g4⟩, g5⟩, g6⟩, g7⟩ := h1
  refine ⟨tm_in _ g1 rfl, g2, g3, ⟨g4, g5⟩, g6, fun e => ?_, fun e => ?_, fun e => ?_⟩
  · rw [if_pos e] at g7
    exact tm_in _ (of_decide_eq_true g7) rfl
  · rw [if_neg (by omega)] at g7
    simp only [Bool.and_eq_true, decide_eq_true_eq] at g7
    obtain ⟨g7, g8⟩ := g7
    rw [if_neg (by omega)] at g8
    simp only [Bool.and_eq_true, decide_eq_true_eq] at g8
    exact ⟨tm_in _ g7 rfl, tm_in _ g8.2 rfl⟩
  · rw [if_neg (by omega)] at g7
    simp only [Bool.and_eq_true, decide_eq_true_eq] at g7
    obtain ⟨g7, g8⟩ := g7
    rw [if_pos e] at g8
    simp only [Bool.and_eq_true, decide_eq_true_eq] at g8
    exact ⟨tm_in _ g7 rfl, g8.1, g8.2⟩
theorem tm_cls {c : Nat} {C : String} {T : u_T} {N : Nat} (h : vwCl[c]? = some (C, T, N)) : c < 12 ∧ C = tm_cn c ∧ (∀ w ∈ u_ws C T N, w ∈ tm_gw) ∧ (∀ k, k < N → parseFieldDescriptor (T k).2.2.1 = some (tm_ty c k)) ∧ (∀ a, a < N → ∀ b, b < N → a ≠ b → (T a).2.1 ≠ (T b).2.1) ∧ (∀ k, k < N → (T k).1 = C) := by
  match c, h with
  | 0, h => cases h; exact ⟨by decide, rfl, tm_lay0, tyX0_ok, nmX0, by decide +kernel⟩
  | 1, h => cases h; exact ⟨by decide, rfl, tm_lay1, tyX1_ok, nmX1, by decide +kernel⟩
  | 2, h => cases h; exact ⟨by decide, rfl, tm_lay2, tyX2_ok, nmX2, by decide +kernel⟩
  | 3, h => cases h; exact ⟨by decide, rfl, tm_lay3, tyX3_ok, nmX3, by decide +kernel⟩
  | 4, h => cases h; exact ⟨by decide, rfl, tm_lay4, tyX4_ok, nmX4, by decide +kernel⟩
  | 5, h => cases h; exact ⟨by decide, rfl, tm_lay5, tyX5_ok, nmX5, by decide +kernel⟩
  | 6, h => cases h; exact ⟨by decide, rfl, tm_lay6, tyX6_ok, nmX6, by decide +kernel⟩
  | 7, h => cases h; exact ⟨by decide, rfl, tm_lay7, tyX7_ok, nmX7, by decide +kernel⟩
  | 8, h => cases h; exact ⟨by decide, rfl, tm_lay8, tyX8_ok, nmX8, by decide +kernel⟩
  | 9, h => cases h; exact ⟨by decide, rfl, tm_lay9, tyX9_ok, nmX9, by decide +kernel⟩
  | 10, h => cases h; exact ⟨by decide, rfl, tm_lay10, tyX10_ok, nmX10, by decide +kernel⟩
  | 11, h => cases h; exact ⟨by decide, rfl, tm_lay11, tyX11_ok, nmX11, by decide +kernel⟩
  | c + 12, h => simp at h
def tm_fv (bs t : Nat) (x : Int32) (y : Int64) (r : Option Nat) : Value := if t = 0 then .int x else if t = 1 then .long y else va_rf (r.map (fun a => bs + a))
def tm_cell (bs : Nat) (cA : Nat → ClassId) (kn : Nat × Nat) (f : Nat → Int32) (g : Nat → Int64) (r : Nat → Option Nat) : va_E :=
  if kn.1 < 100 then .inr (kn.1, (List.range kn.2).map (fun k => tm_fv bs (tm_ft kn.1 k) (f k) (g k) (r k)))
  else .inl (cA kn.1, kn.2, if kn.1 = 103 then .inr (.inl g) else if kn.1 = 104 then .inr (.inr (.inr (.inr (fun k => (r k).map (fun a => bs + a))))) else .inl f)
def tm_ws (bs : Nat) (cA : Nat → ClassId) (M : tM) : va_W := (List.range M.1.1).map (fun o => (bs + o, tm_cell bs cA (M.1.2.2 o) (M.2.1 o) (M.2.2.1 o) (M.2.2.2 o)))
theorem tm_rl_pv (b bs t : Nat) (x : Int32) (y : Int64) (r : Option Nat) : tm_rl b bs (tm_pv t x y r) = tm_fv bs t x y r := by
  unfold tm_pv tm_fv
  split
  · rfl
  · split
    · rfl
    · cases r <;> rfl
theorem tm_rl_rv (b bs : Nat) (r : Option Nat) : tm_rl b bs (tm_rv r) = va_rf (r.map (fun a => bs + a)) := by cases r <;> rfl
theorem tm_rl_cat (b bs : Nat) (v : Value) : (tm_rl b bs v).category = v.category := by cases v <;> rfl
theorem tm_rl_wt (b bs : Nat) (S : List Value) : ((S.map (tm_rl b bs)).map fun v => v.category).sum = tm_wt S := by
  unfold tm_wt
  rw [List.map_map]
  congr 1
  apply List.map_congr_left
  intro v _
  exact tm_rl_cat b bs v
theorem tm_map_set {α : Type} {n k : Nat} {F F' : Nat → α} {v : α} (hk : F' k = v) (ho : ∀ j, j ≠ k → F' j = F j) : ((List.range n).map F).set k v = (List.range n).map F' := by
  apply List.ext_getElem?
  intro i
  rw [List.getElem?_set]
  by_cases e : k = i
  · subst e
    simp only [if_pos, List.length_map, List.length_range]
    by_cases h : k < n
    · simp [h, hk]
    · simp [h]
  · rw [if_neg e, List.getElem?_map, List.getElem?_map]
    by_cases h : i < n
    · simp [h, ho i (fun x => e x.symm)]
    · simp [h]
theorem tm_ws_get {bs : Nat} {cA : Nat → ClassId} {M : tM} {o : Nat} (h : o < M.1.1) : (tm_ws bs cA M)[o]? = some (bs + o, tm_cell bs cA (M.1.2.2 o) (M.2.1 o) (M.2.2.1 o) (M.2.2.2 o)) := by
  simp [tm_ws, h]
theorem tm_ws_set {bs : Nat} {cA : Nat → ClassId} {M M' : tM} {o : Nat} {e : va_E} (hE : M'.1 = M.1) (he : tm_cell bs cA (M'.1.2.2 o) (M'.2.1 o) (M'.2.2.1 o) (M'.2.2.2 o) = e) (h : ∀ q, q ≠ o → M'.2.1 q = M.2.1 q ∧ M'.2.2.1 q = M.2.2.1 q ∧ M'.2.2.2 q = M.2.2.2 q) : (tm_ws bs cA M).set o (bs + o, e) = tm_ws bs cA M' := by
  unfold tm_ws
  rw [hE]
  refine tm_map_set (by rw [← he, hE]) (fun j hj => ?_)
  obtain ⟨h1, h2, h3⟩ := h j hj
  rw [h1, h2, h3]
theorem tm_wsD {bs : Nat} {cA : Nat → ClassId} {M : tM} : va_D (fun q => bs ≤ q) (tm_ws bs cA M) := by
  have key : ∀ (i : Nat) (p : Nat × va_E), (tm_ws bs cA M)[i]? = some p → p.1 = bs + i := by
    intro i p h
    simp only [tm_ws, List.getElem?_map] at h
    by_cases hi : i < M.1.1
    · simp [hi] at h
      rw [← h]
    · simp [hi] at h
  refine ⟨fun i j p q hi hj e => ?_, fun k q hk => ?_⟩
  · have a := key i p hi
    have b := key j q hj
    omega
  · have a := key k q hk
    show bs ≤ q.1
    omega
/-- a byte array's contents are bytes -/
def tm_Fit (M : tM) : Prop := ∀ o, o < M.1.1 → (M.1.2.2 o).1 = 101 → ∀ k, fits .byte (.int (M.2.1 o k)) = true
def tm_Rep (bs : Nat) (dC : Nat → ClassId) (dI : Nat → Nat → Nat) (cA : Nat → ClassId) (M : tM) (H : Heap) : Prop := va_P (dC, dI) vwCl (tm_ws bs cA M) H ∧ tm_Fit M
def tm_tys (cA : Nat → ClassId) : List (ClassId × FieldType) := [(cA 100, .int), (cA 101, .byte), (cA 102, .boolean), (cA 103, .long), (cA 104, .object RX4)]
-- locals
def tm_lv (b bs : Nat) (ls : Array Slot) (nL : Nat) (L : tL) : Prop := ls.size = nL ∧ L.length = nL ∧ lv_wf ls ∧ ∀ (j : Nat) (v : Value), L[j]? = some (some v) → ls[j]? = some (.val (tm_rl b bs v))
def tm_ll (b bs : Nat) (L : tL) : List (Nat × Value) := (List.range L.length).filterMap (fun j => match L[j]? with
  | some (some v) => some (j, tm_rl b bs v)
  | _ => none)
theorem tm_ll_mem {b bs : Nat} {L : tL} {q : Nat × Value} : q ∈ tm_ll b bs L ↔ ∃ v, L[q.1]? = some (some v) ∧ q.2 = tm_rl b bs v := by
  unfold tm_ll
  rw [List.mem_filterMap]
  constructor
  · rintro ⟨j, hj, h⟩
    split at h
    · rename_i v hv
      cases h
      exact ⟨v, hv, rfl⟩
    · cases h
  · rintro ⟨v, hv, h⟩
    refine ⟨q.1, List.mem_range.mpr (List.getElem?_eq_some_iff.mp hv).1, ?_⟩
    rw [hv]
    simp only [← h]
theorem tm_lv.has {b bs : Nat} {ls : Array Slot} {nL : Nat} {L : tL} (h : tm_lv b bs ls nL L) : lv_has ls nL (tm_ll b bs L) := by
  obtain ⟨h1, h2, h3, h4⟩ := h
  refine ⟨h1, h3, fun q hq => ?_⟩
  obtain ⟨v, hv, he⟩ := tm_ll_mem.mp hq
  rw [he]
  exact h4 _ _ hv
theorem tm_lg_at {b bs : Nat} {ls : Array Slot} {nL : Nat} {L : tL} (h : tm_lv b bs ls nL L) {k : Nat} {v : Value} (e : tm_lg L k = some v) : ls[k]? = some (.val (tm_rl b bs v)) := by
  unfold tm_lg at e
  split at e
  · rename_i w hw
    cases e
    exact h.2.2.2 k v hw
  · cases e
theorem tm_ls1_len : ∀ (L : tL) (i : Nat) (v : Value), (tm_ls1 L i v).length = L.length
  | [], _, _ => rfl
  | _ :: l, 0, v => by simp [tm_ls1]
  | a :: l, 1, v => by cases l <;> simp [tm_ls1]
  | a :: l, i + 2, v => by simp [tm_ls1, tm_ls1_len l (i + 1) v]
theorem tm_ls1_get : ∀ (L : tL) (i j : Nat) (v : Value), i < L.length → (tm_ls1 L i v)[j]? = if j = i then some (some v) else if j + 1 = i then (L[j]?).map tm_kill else L[j]?
  | [], _, _, _ => fun h => absurd h (Nat.not_lt_zero _)
  | _ :: l, 0, j, v => fun _ => by cases j <;> simp [tm_ls1]
  | a :: l, 1, j, v => fun h => by
    cases l with
    | nil => simp at h
    | cons c l =>
      match j with
      | 0 => simp [tm_ls1]
      | 1 => simp [tm_ls1]
      | j + 2 => simp [tm_ls1]
  | a :: l, i + 2, j, v => fun h => by
    match j with
    | 0 => simp [tm_ls1]
    | j + 1 =>
      have e := tm_ls1_get l (i + 1) j v (by simp at h; omega)
      simp only [tm_ls1, List.getElem?_cons_succ, e, Nat.add_right_cancel_iff]
theorem tm_lv_st1 {b bs : Nat} {ls' : Array Slot} {nL : Nat} {L : tL} {i : Nat} {v : Value} (hn : L.length = nL) (hi : i < L.length) (hc : v.category = 1) (h : lv_has ls' nL ((i, tm_rl b bs v) :: (tm_ll b bs L).filter (fun q => !(q.1 == i) && !(q.1 + 1 == i && q.2.category == 2)))) : tm_lv b bs ls' nL (tm_ls1 L i v) := by
  obtain ⟨h1, h3, h4⟩ := h
  refine ⟨h1, by rw [tm_ls1_len]; exact hn, h3, fun j w hj => ?_⟩
  rw [tm_ls1_get L i j v hi] at hj
  by_cases e : j = i
  · rw [if_pos e] at hj
    cases hj
    subst e
    exact h4 (j, tm_rl b bs v) List.mem_cons_self
  · rw [if_neg e] at hj
    by_cases e2 : j + 1 = i
    · rw [if_pos e2] at hj
      cases hl : L[j]? with
      | none => rw [hl] at hj; cases hj
      | some a =>
        rw [hl] at hj
        cases a with
        | none => simp [tm_kill] at hj
        | some u =>
          simp only [Option.map_some, tm_kill, Option.some.injEq] at hj
          split at hj
          · cases hj
          · rename_i hu
            cases hj
            refine h4 (j, tm_rl b bs w) (List.mem_cons_of_mem _ (List.mem_filter.mpr ⟨tm_ll_mem.mpr ⟨w, hl, rfl⟩, ?_⟩))
            simp [e, tm_rl_cat, hu]
    · rw [if_neg e2] at hj
      refine h4 (j, tm_rl b bs w) (List.mem_cons_of_mem _ (List.mem_filter.mpr ⟨tm_ll_mem.mpr ⟨w, hj, rfl⟩, ?_⟩))
      simp [e, e2]
theorem tm_lv_st2 {b bs : Nat} {ls' : Array Slot} {nL : Nat} {L : tL} {i : Nat} {v : Value} (hn : L.length = nL) (hi : i + 1 < L.length) (h : lv_has ls' nL ((i, tm_rl b bs v) :: (tm_ll b bs L).filter (fun q => !(q.1 == i) && (!(q.1 == i + 1) && !(q.1 + 1 == i && q.2.category == 2))))) : tm_lv b bs ls' nL (tm_ls2 L i v) := by
  obtain ⟨h1, h3, h4⟩ := h
  refine ⟨h1, by rw [tm_ls2, List.length_set, tm_ls1_len]; exact hn, h3, fun j w hj => ?_⟩
  unfold tm_ls2 at hj
  rw [List.getElem?_set] at hj
  by_cases e0 : i + 1 = j
  · rw [if_pos e0] at hj
    split at hj <;> simp at hj
  · rw [if_neg e0, tm_ls1_get L i j v (by omega)] at hj
    by_cases e : j = i
    · rw [if_pos e] at hj
      cases hj
      subst e
      exact h4 (j, tm_rl b bs v) List.mem_cons_self
    · rw [if_neg e] at hj
      by_cases e2 : j + 1 = i
      · rw [if_pos e2] at hj
        cases hl : L[j]? with
        | none => rw [hl] at hj; cases hj
        | some a =>
          rw [hl] at hj
          cases a with
          | none => simp [tm_kill] at hj
          | some u =>
            simp only [Option.map_some, tm_kill, Option.some.injEq] at hj
            split at hj
            · cases hj
            · rename_i hu
              cases hj
              refine h4 (j, tm_rl b bs w) (List.mem_cons_of_mem _ (List.mem_filter.mpr ⟨tm_ll_mem.mpr ⟨w, hl, rfl⟩, ?_⟩))
              have : ¬ j = i + 1 := by omega
              simp [e, this, tm_rl_cat, hu]
      · rw [if_neg e2] at hj
        refine h4 (j, tm_rl b bs w) (List.mem_cons_of_mem _ (List.mem_filter.mpr ⟨tm_ll_mem.mpr ⟨w, hj, rfl⟩, ?_⟩))
        have : ¬ j = i + 1 := by omega
        simp [e, e2, this]
/-- a method's entry -/
theorem tm_lv_ent {b bs y : Nat} {vs : List Value} (h : (tm_sl vs).length ≤ mL y) : tm_lv b bs ((lg_sl (vs.map (tm_rl b bs)) ++ List.replicate (mL y - (lg_sl (vs.map (tm_rl b bs))).length) Slot.unset).toArray) (mL y) (tm_ent y vs) := by
  have key : ∀ (vs : List Value), (lg_sl (vs.map (tm_rl b bs))).length = (tm_sl vs).length ∧ ∀ (j : Nat) (v : Value), (tm_sl vs)[j]? = some (some v) → (lg_sl (vs.map (tm_rl b bs)))[j]? = some (.val (tm_rl b bs v)) := by
    intro vs
    induction vs with
    | nil => exact ⟨rfl, fun j v h => by simp [tm_sl] at h⟩
    | cons a vs ih =>
      obtain ⟨i1, i2⟩ := ih
      by_cases hc : a.category = 2
      · have e1 : lg_sl ((a :: vs).map (tm_rl b bs)) = .val (tm_rl b bs a) :: .second :: lg_sl (vs.map (tm_rl b bs)) := by simp [lg_sl, tm_rl_cat, hc]
        have e2 : tm_sl (a :: vs) = some a :: none :: tm_sl vs := by simp [tm_sl, hc]
        rw [e1, e2]
        refine ⟨by simp [i1], fun j v hj => ?_⟩
        match j, hj with
        | 0, hj => simp at hj; subst hj; rfl
        | 1, hj => simp at hj
        | j + 2, hj => exact i2 j v (by simpa using hj)
      · have e1 : lg_sl ((a :: vs).map (tm_rl b bs)) = .val (tm_rl b bs a) :: lg_sl (vs.map (tm_rl b bs)) := by simp [lg_sl, tm_rl_cat, hc]
        have e2 : tm_sl (a :: vs) = some a :: tm_sl vs := by simp [tm_sl, hc]
        rw [e1, e2]
        refine ⟨by simp [i1], fun j v hj => ?_⟩
        match j, hj with
        | 0, hj => simp at hj; subst hj; rfl
        | j + 1, hj => exact i2 j v (by simpa using hj)
  obtain ⟨k1, k2⟩ := key vs
  have h0 := lv_entry (vs.map (tm_rl b bs)) (n := mL y) (by rw [k1]; exact h)
  refine ⟨h0.1, ?_, h0.2.1, fun j v hj => ?_⟩
  · simp [tm_ent]; omega
  · unfold tm_ent at hj
    by_cases hl : j < (tm_sl vs).length
    · rw [List.getElem?_append_left hl] at hj
      have h5 := k2 j v hj
      rw [List.getElem?_toArray, List.getElem?_append_left (by rw [k1]; exact hl)]
      exact h5
    · rw [List.getElem?_append_right (by omega)] at hj
      have := List.mem_of_getElem? hj
      rw [List.mem_replicate] at this
      exact absurd this.2 (by simp)
