/-! a run of the pure machine is a run of the machine -/
theorem tm_stp_mono {X : tX} {m len pc pc1 : Nat} {i : Instr} {L L1 : tL} {S S1 : List Value} {M M1 : tM} (h : tm_stp X m i len pc L S M = some (pc1, L1, S1, M1)) : M.1.1 ≤ M1.1.1 ∧ M.1.2.1 ≤ M1.1.2.1 := by
  cases i <;> simp only [tm_stp] at h <;> (repeat' (split at h)) <;> first
    | (cases h; done)
    | (cases h; exact ⟨Nat.le_refl _, Nat.le_refl _⟩)
    | (obtain ⟨-, -, -, e⟩ := tm_jmp_ok h; subst e; exact ⟨Nat.le_refl _, Nat.le_refl _⟩)
    | (cases h; rw [tm_put_E]; exact ⟨Nat.le_refl _, Nat.le_refl _⟩)
    | (cases h; exact ⟨by simp [tm_new], by simp [tm_new]⟩)
theorem tm_mono {X : tX} : ∀ (n m pc : Nat) (L : tL) (S : List Value) (M : tM) (r : Option Value) (M' : tM), tm_run X n m pc L S M = some (r, M') → M.1.1 ≤ M'.1.1 ∧ M.1.2.1 ≤ M'.1.2.1 := by
  intro n
  induction n with
  | zero => intro m pc L S M r M' h; simp [tm_run] at h
  | succ n ih =>
    intro m pc L S M r M' h
    rw [tm_run] at h
    split at h
    · cases h
    · split at h
      · cases h
        exact ⟨Nat.le_refl _, Nat.le_refl _⟩
      · split at h
        · split at h
          · cases h
          · rename_i r1 M1 h1
            have a := ih _ _ _ _ _ _ _ h1
            have b := ih _ _ _ _ _ _ _ h
            exact ⟨Nat.le_trans a.1 b.1, Nat.le_trans a.2 b.2⟩
        · split at h
          · cases h
          · rename_i h1
            have a := tm_stp_mono h1
            have b := ih _ _ _ _ _ _ _ h
            exact ⟨Nat.le_trans a.1 b.1, Nat.le_trans a.2 b.2⟩
def tm_wy (y : Nat) : List Cond := Cond.code (mY y) (mB y) (mL y) (mT y) :: tm_gw
theorem tm_goodw : GoodIn tm_gw tm_gw := fun _ h => ⟨h, good_of_word (List.mem_filter.mp h).2⟩
theorem tm_goody {y : Nat} (hy : y < 180) : GoodIn tm_gw (tm_wy y) := fun w h => by
  rcases List.mem_cons.mp h with h | h
  · rw [h]
    exact tm_goodw _ (tm_code_in hy)
  · exact tm_goodw _ h
def tm_Pc (b bs : Nat) (dC : Nat → ClassId) (dI : Nat → Nat → Nat) (cA : Nat → ClassId) (X : tX) (vs : List Value) (M : tM) : Array Value → State → Prop := fun a U => a = (vs.map (tm_rl b bs)).toArray ∧ U.heap.size = bs + M.1.1 ∧ tm_Rep bs dC dI cA M U.heap ∧ va_K (dC, dI) vwCl (tm_tys cA) U ∧ (∀ w ∈ lw_tbl, tm_isN w = true → va_Nw w U) ∧ va_AO RX4 U ∧ va_X b X.1 X.2 U U.heap
def tm_Qc (b bs : Nat) (dC : Nat → ClassId) (dI : Nat → Nat → Nat) (cA : Nat → ClassId) (r : Option Value) (M : tM) : Array Value → State → Outcome → State → Prop := fun _ st o t => o = .returned (r.map (tm_rl b bs)) ∧ tm_Rep bs dC dI cA M t.heap ∧ va_F (fun q => bs ≤ q) st t
theorem tm_isN_on {w : Cond} (h : tm_isN w = true) : w.onTables = true := by
  unfold tm_isN at h
  split at h
  · rfl
  · cases h
theorem tm_isN_warm {w : Cond} (h : tm_isN w = true) {s U : State} (hW : s.WarmedH U.vm) (hZ : va_Nw w s) : va_Nw w U := by
  unfold tm_isN at h
  split at h
  · exact va_Nw.warmM hW hZ
  · cases h
theorem tm_blind {b bs : Nat} {dC : Nat → ClassId} {dI : Nat → Nat → Nat} {cA : Nat → ClassId} {X : tX} {vs : List Value} {M : tM} : FrameBlind (tm_Pc b bs dC dI cA X vs M) := by
  intro a U g mk q
  obtain ⟨q1, q0, q2, q3, q4, q5, q6⟩ := q
  exact ⟨q1, q0, q2, va_K.moved (u := U) (U := U.calling g mk a) (Vm.Alike.refl U.vm) q3, fun w h1 h2 => va_Nw.same (u := U) (U := U.calling g mk a) (tm_isN_on h2) rfl (q4 w h1 h2), va_AO.moved (u := U) (U := U.calling g mk a) (Vm.Alike.refl U.vm) q5, va_X.moved (u := U) (U := U.calling g mk a) (Vm.Alike.refl U.vm) q6⟩
section TMC
variable {p : Program} {l : Launch} {e : Env} {R : Room} {s : State} {mI : MethodId} {args : Array Value} {below : List Frame} {meth : Method} {c : Code} {H : Heap} {locs : List Loc} {cells slots : Nat} {Q : State → Prop} {b bs : Nat} {dC : Nat → ClassId} {dI : Nat → Nat → Nat} {cA : Nat → ClassId} {X : tX} {m pc len : Nat} {ls : Array Slot} {L : tL} {S : List Value} {M M1 : tM}
theorem tm_after {r1 : Option Value} {kc ks : Nat} {a : Array Value} {st0 rest : List Value} (hr : va_Run p l e R s mI args below meth c H locs cells slots kc ks (F0 mI pc ls st0) rest (tm_Qc b bs dC dI cA r1 M1 a) (fun q => bs ≤ q)) (hS : va_S (fun q => bs ≤ q) s.heap H locs)
    (k : ∀ (H1 : Heap) (locs1 : List Loc), tm_Rep bs dC dI cA M1 H1 → va_S (fun q => bs ≤ q) s.heap H1 locs1 → W p l e R s mI args below meth c H1 locs1 (cells + kc) (slots + ks) Q (F0 mI (pc + 3) ls ((r1.map (tm_rl b bs)).toList ++ rest))) : W p l e R s mI args below meth c H locs cells slots Q (F0 mI pc ls st0) := by
  intro T hT Y
  obtain ⟨v, st₀, t, T', L, h0, Y', hL, e1, e2, ⟨hv, hrep, hz, hk⟩, st⟩ := hr T hT Y
  cases hv
  rw [h0] at hz hk
  obtain ⟨t2, a1, b1⟩ := k T'.heap (locs ++ L) (by rw [e1]; exact hrep) ⟨Nat.le_trans hS.1 (by rw [e1]; exact hz), fun q h1 h2 => by rw [e1, hk q (Nat.lt_of_lt_of_le h1 hS.1) h2]; exact hS.2.1 q h1 h2, fun q hq => by
      rcases List.mem_append.mp hq with h | h
      · exact hS.2.2 q h
      · exact hL q h⟩ T' rfl Y'
  exact ⟨t2, st t2 a1, b1⟩
/-- the size of the heap, out of the walk's own count -/
theorem tm_sized {g : JFrame} (hr : tm_Rep bs dC dI cA M H) (hS : va_S (fun q => bs ≤ q) s.heap H locs) (hc : s.heap.size + cells = bs + M.1.1) (hbs : bs ≤ s.heap.size) (k : H.size = bs + M.1.1 → W p l e R s mI args below meth c H locs cells slots Q g) : W p l e R s mI args below meth c H locs cells slots Q g := by
  intro T hT Y
  have h1 := Y.heapSize
  rw [hT] at h1
  have h2 := hS.1
  have h3 : bs + M.1.1 ≤ H.size := by
    rcases Nat.eq_zero_or_pos M.1.1 with h | h
    · omega
    · have h4 := (hr.1 (M.1.1 - 1) _ (tm_ws_get (by omega))).lt
      dsimp only at h4
      omega
  exact k (by omega) T hT Y
theorem tm_pc {vs : List Value} (C : tm_Cx b bs dC dI cA X p R s mI args meth c m) (hr : tm_Rep bs dC dI cA M H) (hS : va_S (fun q => bs ≤ q) s.heap H locs) (hz : H.size = bs + M.1.1) : ∀ U : State, U.heap = H → s.WarmedH U.vm → tm_Pc b bs dC dI cA X vs M (vs.map (tm_rl b bs)).toArray U := by
  intro U hU hW
  obtain ⟨hx, hb, hml, hown, hts, hret, hlk, hnm, hK, hN, hAO, hF, hNl, hX, hbb, hbs⟩ := C
  have hbA : H[b]? = s.heap[b]? := hS.2.1 b (by omega) (by show ¬ bs ≤ b; omega)
  exact ⟨rfl, by rw [hU]; exact hz, by rw [hU]; exact hr, va_K.moved hW.alike hK, fun w h1 h2 => tm_isN_warm h2 hW (hN w h1 h2), va_AO.moved hW.alike hAO, by rw [hU]; exact (hX.kept hbA).moved hW.alike⟩
theorem tm_callW {i : Instr} {y kc ks : Nat} {vs rest : List Value} {r1 : Option Value} (hcall : tm_call m i len S M.1 = some (y, vs, rest)) (hd : decode (mB m) pc = .ok (i, len)) (C : tm_Cx b bs dC dI cA X p R s mI args meth c m) (hl : tm_lv b bs ls (mL m) L) (hr : tm_Rep bs dC dI cA M H) (hS : va_S (fun q => bs ≤ q) s.heap H locs) (hz : H.size = bs + M.1.1)
    (hM : y < 180 → (tm_sl vs).length ≤ mL y → Met l (mY y) (tm_wy y) ({ frames := mF y, cells := kc, slots := ks, locals := mN y }) (tm_Pc b bs dC dI cA X vs M) (tm_Qc b bs dC dI cA r1 M1) kc ks (fun q => bs ≤ q)) (hrc : cells + kc ≤ R.cells) (hrs : slots + ks ≤ R.slots)
    (k : ∀ (H1 : Heap) (locs1 : List Loc), tm_Rep bs dC dI cA M1 H1 → va_S (fun q => bs ≤ q) s.heap H1 locs1 → W p l e R s mI args below meth c H1 locs1 (cells + kc) (slots + ks) Q (F0 mI (pc + 3) ls ((r1.toList ++ rest).map (tm_rl b bs)))) : W p l e R s mI args below meth c H locs cells slots Q (F0 mI pc ls (S.map (tm_rl b bs))) := by
  have hpc := fun vs => tm_pc (vs := vs) C hr hS hz
  obtain ⟨hx, hb, hml, hown, hts, hret, hlk, hnm, hK, hN, hAO, hF, hNl, hX, hbb, hbs⟩ := C
  have hfix : CallFix p mI c (mB m) (mL m) s args tm_gw (tm_cn (mO m)) := ⟨hx, hb, hml, hown, hts⟩
  have k' : ∀ (H1 : Heap) (locs1 : List Loc), tm_Rep bs dC dI cA M1 H1 → va_S (fun q => bs ≤ q) s.heap H1 locs1 → W p l e R s mI args below meth c H1 locs1 (cells + kc) (slots + ks) Q (F0 mI (pc + 3) ls ((r1.map (tm_rl b bs)).toList ++ rest.map (tm_rl b bs))) := by
    intro H1 locs1 h1 h2
    have h := k H1 locs1 h1 h2
    rw [List.map_append] at h
    have e1 : r1.toList.map (tm_rl b bs) = (r1.map (tm_rl b bs)).toList := by cases r1 <;> rfl
    rw [e1] at h
    exact h
  have len3 : ∀ {n : Nat}, (parseMethodDescriptor (mY y).desc).map (fun d => d.parameters.length) = some n → ∀ sig, parseMethodDescriptor (mY y).desc = some sig → n = sig.parameters.length := by
    intro n h sig hs
    rw [hs] at h
    exact (Option.some.inj h).symm
  unfold tm_call at hcall
  split at hcall
  · split at hcall
    · rename_i e1
      subst e1
      split at hcall
      · rename_i k1 y1 hlk2
        obtain ⟨hy, hlink⟩ := tm_ml_ok0 hlk2
        split at hcall
        · rename_i hq
          obtain ⟨hk0, hA⟩ := hq
          split at hcall
          · rename_i o rest1 hdrop
            split at hcall
            · rename_i hq
              obtain ⟨ho, hkd, h12, hcok⟩ := hq
              cases hcall
              have hco := of_decide_eq_true hcok
              obtain ⟨w1, w2, w3, w4⟩ := hco
              obtain ⟨g1, g2, g3, g4, g5, g6, g7, g8⟩ := tm_m_ok hy
              obtain ⟨i1, i2⟩ := g7 hk0
              have hM1 := hM hy w4
              obtain ⟨⟨C, T, N⟩, hv⟩ : ∃ q, vwCl[mO y]? = some q := ⟨_, List.getElem?_eq_getElem (by show mO y < 12; exact h12)⟩
              obtain ⟨-, hCn, -⟩ := tm_cls hv
              have hg := tm_ws_get (bs := bs) (cA := cA) ho
              rw [tm_cell, hkd, if_pos (by omega)] at hg
              have hrecv := va_recv hK hr.1 hv hg
              rw [show ((C, T, N) : vw_C).1 = (mY y).cls by rw [g2]; exact hCn] at hrecv
              have hst : S.map (tm_rl b bs) = (((S.take (mA y)).reverse).map (tm_rl b bs)).reverse ++ .ref (bs + o) :: rest.map (tm_rl b bs) := by
                conv => lhs; rw [← List.take_append_drop (mA y) S, hdrop]
                simp [tm_rl]
              refine tm_after (va_runV (C := (mY y).cls) (n := mA y) (b := bs + o) (As := ((S.take (mA y)).reverse).map (tm_rl b bs)) (rest := rest.map (tm_rl b bs)) hfix hM1 ⟨⟨rfl, rfl, by show mF y + 1 ≤ R.frames; omega, by show 8 + (mL y + 11) + mN y ≤ R.locals; omega, pay_in hts (tm_goody hy), List.mem_cons_self, hts _ (tm_code_in hy), hts _ g1, g4, len3 g5, hts _ hlink⟩, hts _ i1, hts _ i2⟩ ⟨tm_blind, hrecv, hpc _⟩ rfl (by simp [hA]) hl.1 hst (lv_room (by rw [tm_rl_wt]; exact w1)) hd ⟨hrc, hrs⟩) hS k'
            · cases hcall
          · cases hcall
        · cases hcall
      · cases hcall
    · cases hcall
  · split at hcall
    · rename_i e1
      subst e1
      split at hcall
      · rename_i k1 kd y1 hlk2
        split at hcall
        · rename_i hq
          obtain ⟨hkd, hk0, hA, hcok⟩ := hq
          cases hcall
          have hco := of_decide_eq_true hcok
          obtain ⟨w1, w2, w3, w4⟩ := hco
          have hst : S.map (tm_rl b bs) = (((S.take (mA y)).reverse).map (tm_rl b bs)).reverse ++ (S.drop (mA y)).map (tm_rl b bs) := by
            conv => lhs; rw [← List.take_append_drop (mA y) S]
            simp
          match kd, hkd, hlk2 with
          | 0, _, hlk2 =>
            obtain ⟨hy, hlink⟩ := tm_ml_ok0 hlk2
            obtain ⟨g1, g2, g3, g4, g5, g6, g7, g8⟩ := tm_m_ok hy
            refine tm_after (va_runS (n := mA y) (As := ((S.take (mA y)).reverse).map (tm_rl b bs)) (rest := (S.drop (mA y)).map (tm_rl b bs)) hfix (hM hy w4) ⟨⟨rfl, rfl, by show mF y + 1 ≤ R.frames; omega, by show 8 + (mL y + 11) + mN y ≤ R.locals; omega, pay_in hts (tm_goody hy), List.mem_cons_self, hts _ (tm_code_in hy), hts _ g1, g4, len3 g5, hts _ hlink⟩, hts _ (g6 hk0)⟩ ⟨tm_blind, hpc _⟩ rfl (by simp [hA]) hl.1 hst (lv_room (by rw [tm_rl_wt]; exact w1)) hd ⟨hrc, hrs⟩) hS k'
          | 1, _, hlk2 =>
            obtain ⟨hy, hlink⟩ := tm_ml_ok1 hlk2
            obtain ⟨g1, g2, g3, g4, g5, g6, g7, g8⟩ := tm_m_ok hy
            refine tm_after (va_runSN (n := mA y) (As := ((S.take (mA y)).reverse).map (tm_rl b bs)) (rest := (S.drop (mA y)).map (tm_rl b bs)) hfix (hM hy w4) ⟨⟨⟨rfl, rfl, by show mF y + 1 ≤ R.frames; omega, by show 8 + (mL y + 11) + mN y ≤ R.locals; omega, pay_in hts (tm_goody hy), List.mem_cons_self⟩, hts _ (tm_code_in hy), hts _ g1, g4, len3 g5, va_Nw.use rfl (hN _ hlink rfl)⟩, hts _ (g6 hk0), trivial⟩ ⟨tm_blind, hpc _⟩ rfl (by simp [hA]) hl.1 hst (lv_room (by rw [tm_rl_wt]; exact w1)) hd ⟨hrc, hrs⟩) hS k'
        · cases hcall
      · cases hcall
    · cases hcall
  · split at hcall
    · rename_i e1
      subst e1
      split at hcall
      · rename_i k1 kd y1 hlk2
        split at hcall
        · rename_i hq
          obtain ⟨hkd, hk0, hA⟩ := hq
          split at hcall
          · rename_i o rest1 hdrop
            split at hcall
            · rename_i hcok
              cases hcall
              have hco := of_decide_eq_true hcok
              obtain ⟨w1, w2, w3, w4⟩ := hco
              have hst : S.map (tm_rl b bs) = (((S.take (mA y)).reverse).map (tm_rl b bs)).reverse ++ .ref (bs + o) :: rest.map (tm_rl b bs) := by
                conv => lhs; rw [← List.take_append_drop (mA y) S, hdrop]
                simp [tm_rl]
              match kd, hkd, hlk2 with
              | 0, _, hlk2 =>
                obtain ⟨hy, hlink⟩ := tm_ml_ok0 hlk2
                obtain ⟨g1, g2, g3, g4, g5, g6, g7, g8⟩ := tm_m_ok hy
                obtain ⟨i1, i2, i3⟩ := g8 hk0
                refine tm_after (va_runI (n := mA y) (b := bs + o) (As := ((S.take (mA y)).reverse).map (tm_rl b bs)) (rest := rest.map (tm_rl b bs)) hfix (hM hy w4) ⟨⟨rfl, rfl, by show mF y + 1 ≤ R.frames; omega, by show 8 + (mL y + 11) + mN y ≤ R.locals; omega, pay_in hts (tm_goody hy), (by rw [← i3]; exact List.mem_cons_self), (by rw [← i3]; exact hts _ (tm_code_in hy)), hts _ g1, g4, len3 g5, hts _ hlink⟩, i2, hts _ i1⟩ ⟨tm_blind, hpc _⟩ rfl (by simp [hA]) hl.1 hst (lv_room (by rw [tm_rl_wt]; exact w1)) hd ⟨hrc, hrs⟩) hS k'
              | 1, _, hlk2 =>
                obtain ⟨hy, hlink⟩ := tm_ml_ok1 hlk2
                obtain ⟨g1, g2, g3, g4, g5, g6, g7, g8⟩ := tm_m_ok hy
                obtain ⟨i1, i2, i3⟩ := g8 hk0
                refine tm_after (va_runIN (n := mA y) (b := bs + o) (As := ((S.take (mA y)).reverse).map (tm_rl b bs)) (rest := rest.map (tm_rl b bs)) hfix (hM hy w4) ⟨⟨⟨rfl, rfl, by show mF y + 1 ≤ R.frames; omega, by show 8 + (mL y + 11) + mN y ≤ R.locals; omega, pay_in hts (tm_goody hy), (by rw [← i3]; exact List.mem_cons_self)⟩, (by rw [← i3]; exact hts _ (tm_code_in hy)), hts _ g1, g4, len3 g5, va_Nw.use rfl (hN _ hlink rfl)⟩, i2, hts _ i1⟩ ⟨tm_blind, hpc _⟩ rfl (by simp [hA]) hl.1 hst (lv_room (by rw [tm_rl_wt]; exact w1)) hd ⟨hrc, hrs⟩) hS k'
            · cases hcall
          · cases hcall
        · cases hcall
      · cases hcall
    · cases hcall
  · cases hcall
theorem tm_sim : ∀ (n m pc : Nat) (L : tL) (S : List Value) (M : tM) (r : Option Value) (M' : tM), tm_run X n m pc L S M = some (r, M') → ∀ {p : Program} {e : Env} {R : Room} {s : State} {mI : MethodId} {args : Array Value} {below : List Frame} {meth : Method} {c : Code} {H : Heap} {locs : List Loc} {cells slots : Nat} {Q : State → Prop} {ls : Array Slot},
    tm_Cx b bs dC dI cA X p R s mI args meth c m → tm_lv b bs ls (mL m) L → tm_Rep bs dC dI cA M H → va_S (fun q => bs ≤ q) s.heap H locs → s.heap.size + cells = bs + M.1.1 → cells + (M'.1.1 - M.1.1) ≤ R.cells → slots + (M'.1.2.1 - M.1.2.1) ≤ R.slots →
    (∀ (pc1 : Nat) (i : Instr) (S1 : List Value) (H1 : Heap) (locs1 : List Loc) (ls1 : Array Slot), decode (mB m) pc1 = .ok (i, 1) → tm_ret m i 1 S1 = some r → tm_Rep bs dC dI cA M' H1 → va_S (fun q => bs ≤ q) s.heap H1 locs1 → W p l e R s mI args below meth c H1 locs1 (cells + (M'.1.1 - M.1.1)) (slots + (M'.1.2.1 - M.1.2.1)) Q (F0 mI pc1 ls1 (S1.map (tm_rl b bs)))) →
    W p l e R s mI args below meth c H locs cells slots Q (F0 mI pc ls (S.map (tm_rl b bs))) := by
  intro n
  induction n with
  | zero => intro m pc L S M r M' h; simp [tm_run] at h
  | succ n ih =>
    intro m pc L S M r M' h p e R s mI args below meth c H locs cells slots Q ls C hl hr hS hc hrc hrs hend
    rw [tm_run] at h
    split at h
    · cases h
    · rename_i i len hd
      split at h
      · rename_i r1 hret
        cases h
        have hlen : len = 1 := by
          unfold tm_ret at hret
          split at hret <;> first | (split at hret <;> first | assumption | cases hret) | cases hret
        subst hlen
        have k := hend pc i S H locs ls hd hret hr hS
        simp only [Nat.sub_self, Nat.add_zero] at k
        exact k
      · split at h
        · rename_i y vs rest hcall
          split at h
          · cases h
          · rename_i r1 M1 h1
            have m1 := tm_mono _ _ _ _ _ _ _ _ h1
            have m2 := tm_mono _ _ _ _ _ _ _ _ h
            have hbs : bs ≤ s.heap.size := C.2.2.2.2.2.2.2.2.2.2.2.2.2.2.2
            refine tm_sized hr hS hc hbs (fun hz => ?_)
            refine tm_callW (r1 := r1) (M1 := M1) (kc := M1.1.1 - M.1.1) (ks := M1.1.2.1 - M.1.2.1) hcall hd C hl hr hS hz (fun hy hsl => ?_) (by omega) (by omega) (fun H1 locs1 hr1 hS1 => ?_)
            · refine Met.ofW (cc := mB y) (maxL := mL y) (ret := mT y) (tm_m_ok hy).2.2.1 rfl ?_
              intro p e s m args below meth c s₁ B hml hv
              obtain ⟨hargs, hsz, hrep, hK, hN, hAO, hX⟩ := hv
              subst hargs
              have hts : ∀ w ∈ tm_gw, w.before (vs.map (tm_rl b bs)).toArray s = true := fun w hw => atoms_spec (ws := tm_wy y) B.pre w (List.mem_cons_of_mem _ hw)
              have hown : s.vm.findClass (tm_cn (mO y)) = some m.cls := by
                rw [← (tm_m_ok hy).2.1]
                exact findClass_of_methodNamed B.named
              rw [lg_entry_eq]
              have hnm : mK y = 2 → meth.name = "<init>" := fun h2 => by
                rw [(name_of_methodNamed B.named B.method).1]
                exact ((tm_m_ok hy).2.2.2.2.2.2.2 h2).2.1
              have hbb : b < bs := C.2.2.2.2.2.2.2.2.2.2.2.2.2.2.1
              have C1 : tm_Cx b bs dC dI cA X p (headSpec (tm_wy y) ({ frames := mF y, cells := M1.1.1 - M.1.1, slots := M1.1.2.1 - M.1.2.1, locals := mN y })).room s m (vs.map (tm_rl b bs)).toArray meth c y := ⟨B.exec, B.bytes, hml, hown, hts, B.returns, B.notSynchronized, hnm, hK, hN, hAO, Nat.le_refl _, Nat.le_refl _, hX, hbb, by omega⟩
              refine ih y 0 (tm_ent y vs) [] M r1 M1 h1 C1 (tm_lv_ent hsl) hrep va_S.rf (by omega) (by show 0 + (M1.1.1 - M.1.1) ≤ M1.1.1 - M.1.1; omega) (by show 0 + (M1.1.2.1 - M.1.2.1) ≤ M1.1.2.1 - M.1.2.1; omega) (fun pc1 i1 S1 H1 locs1 ls1 hd1 hret1 hr1 hS1 => ?_)
              have hQ : ∀ t : State, t.heap = H1 → s.WarmedH t.vm → tm_Qc b bs dC dI cA r1 M1 (vs.map (tm_rl b bs)).toArray s (.returned (r1.map (tm_rl b bs))) t := fun t ht _ => ⟨rfl, by rw [ht]; exact hr1, hS1.F ht⟩
              have hlk := B.notSynchronized
              have hrt := B.returns
              simp only [Nat.zero_add]
              unfold tm_ret at hret1
              split at hret1
              · rw [if_pos rfl] at hret1
                split at hret1
                · rename_i x hT
                  cases hret1
                  rw [hT] at hrt
                  exact W.iret (v := x) B.exec B.bytes hrt hQ hS1.2.2 hd1
                · rename_i x hT
                  split at hret1
                  · rename_i h01
                    cases hret1
                    rw [hT] at hrt
                    exact W.zret (v := x) B.exec B.bytes hrt (by rcases h01 with h | h <;> subst h <;> decide) hQ hS1.2.2 hd1
                  · cases hret1
                · cases hret1
              · rw [if_pos rfl] at hret1
                split at hret1
                · rename_i x hT
                  cases hret1
                  rw [hT] at hrt
                  exact W.lret (v := x) B.exec B.bytes hrt hQ hS1.2.2 hd1
                · cases hret1
              · rw [if_pos rfl] at hret1
                split at hret1
                · rename_i hT
                  cases hret1
                  rw [hT] at hrt
                  exact W.vret B.exec B.bytes hrt hQ hS1.2.2 hd1
                · cases hret1
              · cases hret1
            · refine ih m (pc + 3) L (r1.toList ++ rest) M1 r M' h C hl hr1 hS1 (by omega) (by omega) (by omega) (fun pc1 i1 S1 H2 locs2 ls1 hd1 hret1 hr2 hS2 => ?_)
              have k := hend pc1 i1 S1 H2 locs2 ls1 hd1 hret1 hr2 hS2
              rw [show cells + (M1.1.1 - M.1.1) + (M'.1.1 - M1.1.1) = cells + (M'.1.1 - M.1.1) by omega, show slots + (M1.1.2.1 - M.1.2.1) + (M'.1.2.1 - M1.1.2.1) = slots + (M'.1.2.1 - M.1.2.1) by omega]
              exact k
        · split at h
          · cases h
          · rename_i pc' L' S' M1 hst
            have m1 := tm_stp_mono hst
            have m2 := tm_mono _ _ _ _ _ _ _ _ h
            refine tm_step hd hst C hl hr hS hc (by omega) (by omega) (fun H1 locs1 ls1 hl1 hr1 hS1 => ?_)
            refine ih m pc' L' S' M1 r M' h C hl1 hr1 hS1 (by omega) (by omega) (by omega) (fun pc1 i1 S1 H2 locs2 ls2 hd1 hret1 hr2 hS2 => ?_)
            have k := hend pc1 i1 S1 H2 locs2 ls2 hd1 hret1 hr2 hS2
            rw [show cells + (M1.1.1 - M.1.1) + (M'.1.1 - M1.1.1) = cells + (M'.1.1 - M.1.1) by omega, show slots + (M1.1.2.1 - M.1.2.1) + (M'.1.2.1 - M1.1.2.1) = slots + (M'.1.2.1 - M.1.2.1) by omega]
            exact k
end TMC
