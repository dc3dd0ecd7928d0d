/-! the law's own start: what the pure run of the law gives -/
def tm_M0 : tM := ((0, 0, fun _ => (0, 0)), fun _ _ => 0, fun _ _ => 0, fun _ _ => none)
theorem tm_mB : mB 180 = code := rfl
theorem tm_mT : mT 180 = ret := rfl
theorem tm_mL : mL 180 = 4 := rfl
theorem tm_kn {s : State} {args : Array Value} (hts : ∀ w ∈ tm_gw, w.before args s = true) : ∀ c : Nat, ∃ y : ClassId × (Nat → Nat), ∀ q : vw_C, vwCl[c]? = some q → u_Kn s q.1 q.2.1 q.2.2 y.1 y.2 := by
  intro c
  match c with
  | 0 =>
    obtain ⟨cC, iS, h⟩ := u_known (n := 16) hts tm_lay0 (hts (.instantiable RX0 16) (tm_in 426 (by decide +kernel) rfl))
    exact ⟨(cC, iS), fun q hq => by cases hq; exact h⟩
  | 1 =>
    obtain ⟨cC, iS, h⟩ := u_known (n := 3) hts tm_lay1 (hts (.instantiable RX1 3) (tm_in 229 (by decide +kernel) rfl))
    exact ⟨(cC, iS), fun q hq => by cases hq; exact h⟩
  | 2 =>
    obtain ⟨cC, iS, h⟩ := u_known (n := 7) hts tm_lay2 (hts (.instantiable RX2 7) (tm_in 395 (by decide +kernel) rfl))
    exact ⟨(cC, iS), fun q hq => by cases hq; exact h⟩
  | 3 =>
    obtain ⟨cC, iS, h⟩ := u_known (n := 14) hts tm_lay3 (hts (.instantiable RX3 14) (tm_in 345 (by decide +kernel) rfl))
    exact ⟨(cC, iS), fun q hq => by cases hq; exact h⟩
  | 4 =>
    obtain ⟨cC, iS, h⟩ := u_known (n := 5) hts tm_lay4 (hts (.instantiable RX4 5) (tm_in 249 (by decide +kernel) rfl))
    exact ⟨(cC, iS), fun q hq => by cases hq; exact h⟩
  | 5 =>
    obtain ⟨cC, iS, h⟩ := u_known (n := 6) hts tm_lay5 (hts (.instantiable RX5 6) (tm_in 221 (by decide +kernel) rfl))
    exact ⟨(cC, iS), fun q hq => by cases hq; exact h⟩
  | 6 =>
    obtain ⟨cC, iS, h⟩ := u_known (n := 3) hts tm_lay6 (hts (.instantiable RX6 3) (tm_in 255 (by decide +kernel) rfl))
    exact ⟨(cC, iS), fun q hq => by cases hq; exact h⟩
  | 7 =>
    obtain ⟨cC, iS, h⟩ := u_known (n := 12) hts tm_lay7 (hts (.instantiable RX7 12) (tm_in 135 (by decide +kernel) rfl))
    exact ⟨(cC, iS), fun q hq => by cases hq; exact h⟩
  | 8 =>
    obtain ⟨cC, iS, h⟩ := u_known (n := 7) hts tm_lay8 (hts (.instantiable RX8 7) (tm_in 141 (by decide +kernel) rfl))
    exact ⟨(cC, iS), fun q hq => by cases hq; exact h⟩
  | 9 =>
    obtain ⟨cC, iS, h⟩ := u_known (n := 4) hts tm_lay9 (hts (.instantiable RX9 4) (tm_in 487 (by decide +kernel) rfl))
    exact ⟨(cC, iS), fun q hq => by cases hq; exact h⟩
  | 10 =>
    obtain ⟨cC, iS, h⟩ := u_known (n := 18) hts tm_lay10 (hts (.instantiable RX10 18) (tm_in 127 (by decide +kernel) rfl))
    exact ⟨(cC, iS), fun q hq => by cases hq; exact h⟩
  | 11 =>
    obtain ⟨cC, iS, h⟩ := u_known (n := 73) hts tm_lay11 (hts (.instantiable RX11 73) (tm_in 974 (by decide +kernel) rfl))
    exact ⟨(cC, iS), fun q hq => by cases hq; exact h⟩
  | c + 12 => exact ⟨(0, fun _ => 0), fun q hq => by simp at hq⟩
theorem tm_arr {s : State} {args : Array Value} {ty : FieldType} (h : (Cond.arrayClass ty).before args s = true) (hp : ∀ C, ty ≠ .object C) : ∃ cA, ArrOfT s cA ty ∧ va_RA s cA ty := by
  obtain ⟨cA, kA, comp, h1, h2, h3⟩ := Cond.arrayClass_spec h
  refine ⟨cA, fun n z => ⟨(fun k h => by cases h), kA, h2, comp, h3⟩, ?_⟩
  cases ty with
  | object C => exact absurd rfl (hp C)
  | _ => exact h1
theorem tm_arq {s : State} {args : Array Value} {C : String} (h : (Cond.arrayOver (.object C)).before args s = true) : ∃ cA, ArrOfT s cA (.object C) ∧ va_RA s cA (.object C) := by
  obtain ⟨comp, cA, kA, h1, -, h2, h3, h4⟩ := Cond.arrayOver_spec h
  exact ⟨cA, fun n z => ⟨(fun k h => by cases h), kA, h2, comp, h3⟩, kA, comp, h2, h3, h1, h4⟩
set_option maxRecDepth 100000 in
theorem tm_bridge {p : Program} {e : Env} {s : State} {m : MethodId} {below : List Frame} {meth : Method} {c : Code} {l : Launch} {b L : Nat} {xs : Nat → Int32} {Q : State → Prop} (hx : p.tables.exec = Jvm.exec) (hb : c.code = code) (hr : meth.sig.returnType = ret) (hml : c.maxLocals = 4) (hown : s.vm.findClass "TermRulesLaw" = some m.cls) (hts : ∀ w ∈ lw_tbl, w.before #[Value.ref b] s = true) (hX : va_X b L xs s s.heap) (hbl : b < s.heap.size) (hlocks : meth.locks = false)
    {n : Nat} {M' : tM} (hrun : tm_run (L, xs) n 180 0 (tm_ent 180 [.retAddr 0]) [] tm_M0 = some (some (.int 1), M')) (h1 : M'.1.1 ≤ 600000) (h2 : M'.1.2.1 ≤ 7302250)
    (hend : ∀ (pc1 : Nat) (H1 : Heap) (ls1 : Array Slot), decode code pc1 = .ok (.ireturn, 1) → W p l e room_1 s m #[Value.ref b] below meth c H1 [] 600000 7302250 Q (F0 m pc1 ls1 [.int 1])) : W p l e room_1 s m #[Value.ref b] below meth c s.heap [] 0 0 Q (entryFrame m ([Value.ref b] : List Value).toArray 4) := by
  have hg : ∀ w ∈ tm_gw, w.before #[Value.ref b] s = true := fun w hw => hts w (List.mem_filter.mp hw).1
  obtain ⟨D, hD⟩ := Classical.skolem.mp (tm_kn hg)
  obtain ⟨a0, p0⟩ := tm_arr (hg _ tm_ac_int) (fun C h => by cases h)
  obtain ⟨a1, p1⟩ := tm_arr (hg _ tm_ac_byte) (fun C h => by cases h)
  obtain ⟨a2, p2⟩ := tm_arr (hg _ tm_ac_boolean) (fun C h => by cases h)
  obtain ⟨a3, p3⟩ := tm_arr (hg _ tm_ac_long) (fun C h => by cases h)
  obtain ⟨a4, p4⟩ := tm_arq (hts _ tm_ao)
  have hK : va_K ((fun k => (D k).1), (fun k => (D k).2)) vwCl (tm_tys (fun k => if k = 100 then a0 else if k = 101 then a1 else if k = 102 then a2 else if k = 103 then a3 else a4)) s := by
    refine ⟨fun k q hq => hD k q hq, fun k q hq => ?_⟩
    match k, hq with
    | 0, hq => cases hq; exact p0
    | 1, hq => cases hq; exact p1
    | 2, hq => cases hq; exact p2
    | 3, hq => cases hq; exact p3
    | 4, hq => cases hq; exact p4
    | k + 5, hq => simp [tm_tys] at hq
  have C1 : tm_Cx b s.heap.size (fun k => (D k).1) (fun k => (D k).2) (fun k => if k = 100 then a0 else if k = 101 then a1 else if k = 102 then a2 else if k = 103 then a3 else a4) (L, xs) p room_1 s m #[Value.ref b] meth c 180 :=
    ⟨hx, hb.trans tm_mB.symm, hml, hown, hg, hr.trans tm_mT.symm, hlocks, (fun h => absurd h (by decide)), hK, fun w h1 h2 => va_Nw.of (tm_isN_on h2) (hts w h1), hts _ tm_ao, by decide, by decide, hX, hbl, Nat.le_refl _⟩
  rw [lg_entry_eq]
  refine tm_sim (l := l) n 180 0 (tm_ent 180 [.retAddr 0]) [] tm_M0 _ M' hrun C1 (tm_lv_ent (b := b) (bs := s.heap.size) (y := 180) (vs := [.retAddr 0]) (by decide)) ⟨fun k q h => by simp [tm_ws, tm_M0] at h, fun o ho => absurd ho (Nat.not_lt_zero _)⟩ va_S.rf rfl (by show 0 + (M'.1.1 - 0) ≤ 600000; omega) (by show 0 + (M'.1.2.1 - 0) ≤ 7302250; omega) (fun pc1 i S1 H1 locs1 ls1 hd hret hr1 hS1 => ?_)
  have hi : i = .ireturn ∧ S1 = [.int 1] := by
    unfold tm_ret at hret
    split at hret
    · rw [if_pos rfl] at hret
      split at hret
      · cases hret
        exact ⟨rfl, rfl⟩
      · split at hret
        · cases hret
          exact ⟨rfl, rfl⟩
        · cases hret
      · cases hret
    · rw [if_pos rfl] at hret
      split at hret <;> cases hret
    · rw [if_pos rfl] at hret
      split at hret <;> cases hret
    · cases hret
  obtain ⟨e1, e2⟩ := hi
  subst e1; subst e2
  refine va_forget (fun q hq => hS1.2.2 q hq) ?_
  exact W.widen (by show 0 + (M'.1.1 - 0) ≤ 600000; omega) (by show 0 + (M'.1.2.1 - 0) ≤ 7302250; omega) (hend pc1 H1 ls1 hd)
