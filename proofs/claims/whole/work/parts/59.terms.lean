/-! a text of terms: names of its variables, codes of its nodes (a variable's code is 1000 and its number) -/
abbrev tVr : Type := Nat × (Nat → List Nat) × (Nat → Nat)
def zte1 (sc : Nat) (sn : Nat → List Nat) (sa : Nat → Nat) (l : List Nat) (v : Bool) (pk k : Nat) (e : tVr) : Option tVr := match e with
  | (vc, vn, w) => if v then match zfn vn l vc with
      | some j => some (vc, vn, va_up w k (1000 + j))
      | none => some (vc + 1, va_up vn vc l, va_up w k (1000 + vc))
    else match zfn sn l sc with
      | some i => if sa i = pk then some (vc, vn, va_up w k i) else none
      | none => none
def zte (sc : Nat) (sn : Nat → List Nat) (sa : Nat → Nat) (nm : Nat → List Nat) (iv : Nat → Bool) (pa : Nat → Nat) : Nat → Option tVr
  | 0 => some (0, fun _ => [], fun _ => 0)
  | k + 1 => match zte sc sn sa nm iv pa k with
    | none => none
    | some e => zte1 sc sn sa (nm k) (iv k) (pa k) k e
def zEI (sc : Nat) (sn : Nat → List Nat) (sa : Nat → Nat) (nm : Nat → List Nat) (iv : Nat → Bool) (pa : Nat → Nat) (k : Nat) (e : tVr) : Prop := match e with
  | (vc, vn, w) => vc ≤ k ∧ (∀ v, v < vc → zvn (vn v)) ∧ ∀ i, i < k → (iv i = false → w i < sc ∧ sa (w i) = pa i ∧ zfn sn (nm i) sc = some (w i)) ∧ (iv i = true → 1000 ≤ w i ∧ w i < 1000 + vc ∧ zfn vn (nm i) vc = some (w i - 1000))
theorem zfn_up {vn : Nat → List Nat} {l l' : List Nat} {vc j : Nat} (h : zfn vn l vc = some j) : zfn (va_up vn vc l') l (vc + 1) = some j := by
  have e : ∀ c, c ≤ vc → zfn (va_up vn vc l') l c = zfn vn l c := by
    intro c
    induction c with
    | zero => intro _; rfl
    | succ c ih =>
      intro hc
      simp only [zfn]
      rw [ih (by omega), zu_n (by omega)]
  simp only [zfn]
  rw [e vc (Nat.le_refl _), h]
theorem zfn_new {vn : Nat → List Nat} {l : List Nat} {vc : Nat} (h : zfn vn l vc = none) : zfn (va_up vn vc l) l (vc + 1) = some vc := by
  have e : ∀ c, c ≤ vc → zfn (va_up vn vc l) l c = zfn vn l c := by
    intro c
    induction c with
    | zero => intro _; rfl
    | succ c ih =>
      intro hc
      simp only [zfn]
      rw [ih (by omega), zu_n (by omega)]
  simp only [zfn]
  rw [e vc (Nat.le_refl _), h, zu_s]
  exact if_pos rfl
theorem zEI_s {sc : Nat} {sn : Nat → List Nat} {sa : Nat → Nat} {nm : Nat → List Nat} {iv : Nat → Bool} {pa : Nat → Nat} {k : Nat} {e e' : tVr} (hv : zvn (nm k)) (h : zEI sc sn sa nm iv pa k e) (he : zte1 sc sn sa (nm k) (iv k) (pa k) k e = some e') : zEI sc sn sa nm iv pa (k + 1) e' := by
  obtain ⟨vc, vn, w⟩ := e
  obtain ⟨h1, h2, h3⟩ := h
  simp only [zte1] at he
  cases hi : iv k with
  | true =>
    rw [hi, if_pos rfl] at he
    cases hz : zfn vn (nm k) vc with
    | some j =>
      rw [hz] at he
      cases he
      have hj := (zfn_lt hz).1
      refine ⟨by omega, h2, fun i hik => ?_⟩
      by_cases e : i = k
      · subst e
        rw [zu_s, hi]
        exact ⟨fun q => by (cases q), fun _ => ⟨by omega, by omega, by rw [Nat.add_sub_cancel_left]; exact hz⟩⟩
      · rw [zu_n e]; exact h3 i (by omega)
    | none =>
      rw [hz] at he
      cases he
      refine ⟨by omega, fun v hv' => ?_, fun i hik => ?_⟩
      · by_cases e : v = vc
        · subst e; rw [zu_s]; exact hv
        · rw [zu_n e]; exact h2 v (by omega)
      · by_cases e : i = k
        · subst e
          rw [zu_s, hi]
          exact ⟨fun q => by (cases q), fun _ => ⟨by omega, by omega, by rw [Nat.add_sub_cancel_left]; exact zfn_new hz⟩⟩
        · rw [zu_n e]
          obtain ⟨a1, a2⟩ := h3 i (by omega)
          refine ⟨a1, fun q => ?_⟩
          obtain ⟨b1, b2, b3⟩ := a2 q
          exact ⟨b1, by omega, zfn_up b3⟩
  | false =>
    rw [hi, if_neg (by decide)] at he
    cases hz : zfn sn (nm k) sc with
    | some j =>
      rw [hz] at he
      dsimp only at he
      by_cases hp : sa j = pa k
      · rw [if_pos hp] at he
        cases he
        have hj := (zfn_lt hz).1
        refine ⟨by omega, h2, fun i hik => ?_⟩
        by_cases e : i = k
        · subst e
          rw [zu_s, hi]
          exact ⟨fun _ => ⟨hj, hp, hz⟩, fun q => by (cases q)⟩
        · rw [zu_n e]; exact h3 i (by omega)
      · rw [if_neg hp] at he; cases he
    | none => rw [hz] at he; cases he
theorem zEI_all {sc : Nat} {sn : Nat → List Nat} {sa : Nat → Nat} {nm : Nat → List Nat} {iv : Nat → Bool} {pa : Nat → Nat} {c : Nat} (hv : ∀ k, k < c → zvn (nm k)) : ∀ k e, k ≤ c → zte sc sn sa nm iv pa k = some e → zEI sc sn sa nm iv pa k e := by
  intro k
  induction k with
  | zero => intro e _ h; cases h; exact ⟨Nat.le_refl _, fun v hv => absurd hv (Nat.not_lt_zero _), fun i hi => absurd hi (Nat.not_lt_zero _)⟩
  | succ k ih =>
    intro e hk h
    simp only [zte] at h
    split at h
    · cases h
    · rename_i e0 h0
      exact zEI_s (hv k (by omega)) (ih e0 (by omega) h0) h
/-! the class takes terms -/
def zct (x : Nat) : Int32 := if x < 100 then nI x else (-1) - nI (x - 1000)
theorem zct_v {v : Nat} : (-1) - nI v = zct (1000 + v) := by rw [zct, if_neg (by omega), Nat.add_sub_cancel_left]
theorem zct_s {x : Nat} (h : x < 100) : zct x = nI x := if_pos h
theorem zct_n {x : Nat} (h : 1000 ≤ x) (h2 : x < 100000) : (zct x < 0) = True := by rw [zct, if_neg (by omega)]; exact zcn1 (by omega)
theorem zct_n' {x : Nat} (h : 1000 ≤ x) (h2 : x < 100000) : ((0 : Int32) ≤ zct x) = False := by rw [zct, if_neg (by omega)]; exact zcn0 (by omega)
theorem zct_no {x : Nat} (h : 1000 ≤ x) (h2 : x < 100000) : (zct x = -1000000) = False := by
  rw [zct, if_neg (by omega)]
  apply eq_false
  intro e
  have h1 : ((-1) - nI (x - 1000) : Int32).toInt = -1 - ((x - 1000 : Nat) : Int) := by
    rw [Int32.toInt_sub, nI_toInt (by omega), show (-1 : Int32).toInt = -1 by decide]
    rw [Int.bmod_eq_of_le] <;> omega
  rw [e] at h1
  have h2 : (-1000000 : Int32).toInt = -1000000 := by decide
  omega
def zCE (k : Nat) (e : tVr) (I : tI) (J : tJ) : Prop := match e with
  | (vc, vn, w) => I 201 2 = nI vc ∧ (∀ v, v < vc → J 202 v = zHd (vn v) ∧ I 203 v = zTl (vn v)) ∧ ∀ i, i < k → I 204 i = zct (w i)
def zfE (I : tI) (J : tJ) (I' : tI) (J' : tJ) : Prop := (∀ o, o ≠ 201 → o ≠ 203 → o ≠ 204 → I' o = I o) ∧ (∀ o, o ≠ 202 → J' o = J o)
theorem zfE.rf {I : tI} {J : tJ} : zfE I J I J := ⟨fun _ _ _ _ => rfl, fun _ _ => rfl⟩
theorem zfE.tr {I I' I'' : tI} {J J' J'' : tJ} (h : zfE I J I' J') (g : zfE I' J' I'' J'') : zfE I J I'' J'' := ⟨fun o a1 a2 a3 => (g.1 o a1 a2 a3).trans (h.1 o a1 a2 a3), fun o a1 => (g.2 o a1).trans (h.2 o a1)⟩
section TT
variable {X : tX} {Q : tQ} {hp sp tp : Nat} {I : tI} {J : tJ} {nm : Nat → List Nat} {at_ pa so : Nat → Nat} {sd c : Nat} {K : tK}
set_option maxRecDepth 100000 in
set_option maxHeartbeats 4000000 in
theorem c_findOrAdd {vc : Nat} {vn : Nat → List Nat} {l : List Nat} (hvc : vc < 2000) (hl : zvn l) (hv : ∀ v, v < vc → zvn (vn v)) (h1 : I 201 2 = nI vc) (hh : ∀ v, v < vc → J 202 v = zHd (vn v) ∧ I 203 v = zTl (vn v))
    (h2 : ∀ j, zfn vn l vc = some j → Q (some (.int (nI j))) zE I J (zR hp sp tp))
    (h3 : zfn vn l vc = none → ∀ I' J', I' = va_up (va_up I 201 (va_up (I 201) 2 (nI (vc + 1)))) 203 (va_up (I 203) vc (zTl l)) → J' = va_up J 202 (va_up (J 202) vc (zHd l)) → Q (some (.int (nI vc))) zE I' J' (zR hp sp tp)) : cwp X 62 [.ref 201, .long (zHd l), .int (zTl l)] zE I J (zR hp sp tp) Q := by
  show wp X 62 0 [some (.ref 201), some (.long (zHd l)), none, some (.int (zTl l)), none] [] zE I J (zR hp sp tp) Q
  simp (disch := first | omega | decide) only [k62_0, k62_1, k62_2, k62_3, ↓zite, ↓reduceIte, zadd1, ↓zli_0, ↓zli_s, ↓zll_0, ↓zll_s, ↓zla_r, ↓zla_n, ↓zla_x, ↓zla_v, ↓zla_s, ↓zst_0, ↓zst_1, ↓zst_s, ↓zst2_0, ↓zst2_1, ↓zst2_s, zki_i, zki_r, zki_n, zki_x, zki_l, zki_0, zki_v, zwt_0, zwt_i, zwt_l, zwt_r, zwt_n, zwt_x, zwt_v, zrv_0, zrv_s, zca_r, zca_n, zca_i, zca_l, zca_v, true_and, and_true, and_self, true_imp_iff, false_imp_iff, imp_self, not_true_eq_false, not_false_eq_true, forall_const, Nat.reduceAdd, Nat.reduceLeDiff, z01_0, z01_1, zlt0, zge0, zu_s, zu_n, zu_d, zu_c, nI_add, nI_clamp, false_or, or_false, false_and, and_false, zlt, zle, zeq, zeq0, zgt0, zle0, zsub, zm1, zne1, zle_t, zle_f, zlt_t, zlt_f, zen_t, zen_f, Option.toList_none, Option.toList_some, List.nil_append, List.cons_append, Nat.add_sub_cancel, zf_0_0, zf_0_1, zf_0_2, zf_0_3, zf_0_4, zf_0_5, zf_0_6, zf_0_7, zf_0_8, zf_0_9, zf_0_10, zf_0_11, zf_0_12, zf_0_13, zf_0_14, zf_0_15, zf_0_16, zf_0_17, zc_0, za_1, zan_1, zf_2_0, zf_2_1, zf_2_2, zf_2_3, zf_2_4, zf_2_5, zf_2_6, zf_2_7, zf_2_8, zf_2_9, zf_2_10, zf_2_11, zc_2, zf_3_0, zf_3_1, zf_3_2, zf_3_3, zf_3_4, zf_3_5, zf_3_6, zc_3, za_4, zan_4, za_5, za_6, za_7, za_8, za_9, za_10, zf_11_0, zf_11_1, zf_11_2, zf_11_3, zf_11_4, zf_11_5, zc_11, zf_13_0, zf_13_1, zf_13_2, zc_13, za_14, za_15, za_16, zf_17_0, zf_17_1, zf_17_2, zc_17, za_18, za_19, za_20, zf_201_0, zf_201_1, zf_201_2, zc_201, za_202, za_203, za_204, za_205, za_206, zf_207_0, zf_207_1, zf_207_2, zf_207_3, zf_207_4, zf_207_5, zf_207_6, zf_207_7, zf_207_8, zf_207_9, zf_207_10, zf_207_11, zf_207_12, zf_207_13, zc_207, za_208, za_209, za_210, za_211, za_212, za_213, za_214, za_215, za_216, zf_217_0, zf_217_1, zf_217_2, zf_217_3, zf_217_4, zf_217_5, zf_217_6, zc_217, za_218, za_219, za_220, za_221, za_222, zf_223_0, zf_223_1, zf_223_2, zf_223_3, zf_223_4, zf_223_5, zf_223_6, zf_223_7, zf_223_8, zf_223_9, zf_223_10, zf_223_11, zf_223_12, zf_223_13, zf_223_14, zf_223_15, zc_223, za_224, za_225, za_226, za_227, za_228, za_229, za_230, za_231, zan_231, za_232, za_233, za_234, zf_235_0, zf_235_1, zf_235_2, zf_235_3, zc_235, za_236, zan_236, za_237, za_238, zan_238, za_239, zan_239, zr_0_0, zr_0_3, zr_0_4, zr_0_5, zr_0_6, zr_0_7, zr_0_8, zr_0_9, zr_0_10, zr_0_11, zr_0_12, zr_0_13, zr_0_15, zr_2_0, zr_2_1, zr_2_5, zr_2_6, zr_2_7, zr_2_8, zr_2_9, zr_11_0, zr_11_1, zr_11_2, zr_11_4, zr_11_5, zr_13_0, zr_13_1, zr_17_0, zr_17_1, zr_201_0, zr_201_1, zr_207_5, zr_207_7, zr_207_9, zr_207_10, zr_207_11, zr_207_12, zr_207_13, zr_217_2, zr_217_3, zr_217_4, zr_217_5, zr_217_6, zr_223_2, zr_223_3, zr_223_4, zr_223_5, zr_223_6, zr_223_7, zr_223_8, zr_223_9, zr_223_10, zr_223_12, zr_223_13, zr_235_0, zr_235_2, zR_h, zR_s, zR_t, za_12, zr_12, zff_21, zff_22, zff_25, zfc_21, zfc_22, zfc_25, zfa_23, zfa_24, zfa_26, zfa_27, zfa_28, zfa_29, zfr_21_0, zfr_21_1, zfr_21_2, zfr_21_3, zfr_22_0, zfr_22_1, zfr_25_0, zfr_25_1]
  refine c_find_201 (by omega) hl hv h1 hh ?_
  cases hz : zfn vn l vc with
  | some j =>
    have hj := (zfn_lt hz).1
    simp only [zoi]
    simp (disch := first | omega | decide) only [k62_6, k62_8, k62_10, k62_11, k62_14, k62_15, k62_16, k62_17, k62_20, k62_23, k62_25, ↓zite, ↓reduceIte, zadd1, ↓zli_0, ↓zli_s, ↓zll_0, ↓zll_s, ↓zla_r, ↓zla_n, ↓zla_x, ↓zla_v, ↓zla_s, ↓zst_0, ↓zst_1, ↓zst_s, ↓zst2_0, ↓zst2_1, ↓zst2_s, zki_i, zki_r, zki_n, zki_x, zki_l, zki_0, zki_v, zwt_0, zwt_i, zwt_l, zwt_r, zwt_n, zwt_x, zwt_v, zrv_0, zrv_s, zca_r, zca_n, zca_i, zca_l, zca_v, true_and, and_true, and_self, true_imp_iff, false_imp_iff, imp_self, not_true_eq_false, not_false_eq_true, forall_const, Nat.reduceAdd, Nat.reduceLeDiff, z01_0, z01_1, zlt0, zge0, zu_s, zu_n, zu_d, zu_c, nI_add, nI_clamp, false_or, or_false, false_and, and_false, zlt, zle, zeq, zeq0, zgt0, zle0, zsub, zm1, zne1, zle_t, zle_f, zlt_t, zlt_f, zen_t, zen_f, Option.toList_none, Option.toList_some, List.nil_append, List.cons_append, Nat.add_sub_cancel, zf_0_0, zf_0_1, zf_0_2, zf_0_3, zf_0_4, zf_0_5, zf_0_6, zf_0_7, zf_0_8, zf_0_9, zf_0_10, zf_0_11, zf_0_12, zf_0_13, zf_0_14, zf_0_15, zf_0_16, zf_0_17, zc_0, za_1, zan_1, zf_2_0, zf_2_1, zf_2_2, zf_2_3, zf_2_4, zf_2_5, zf_2_6, zf_2_7, zf_2_8, zf_2_9, zf_2_10, zf_2_11, zc_2, zf_3_0, zf_3_1, zf_3_2, zf_3_3, zf_3_4, zf_3_5, zf_3_6, zc_3, za_4, zan_4, za_5, za_6, za_7, za_8, za_9, za_10, zf_11_0, zf_11_1, zf_11_2, zf_11_3, zf_11_4, zf_11_5, zc_11, zf_13_0, zf_13_1, zf_13_2, zc_13, za_14, za_15, za_16, zf_17_0, zf_17_1, zf_17_2, zc_17, za_18, za_19, za_20, zf_201_0, zf_201_1, zf_201_2, zc_201, za_202, za_203, za_204, za_205, za_206, zf_207_0, zf_207_1, zf_207_2, zf_207_3, zf_207_4, zf_207_5, zf_207_6, zf_207_7, zf_207_8, zf_207_9, zf_207_10, zf_207_11, zf_207_12, zf_207_13, zc_207, za_208, za_209, za_210, za_211, za_212, za_213, za_214, za_215, za_216, zf_217_0, zf_217_1, zf_217_2, zf_217_3, zf_217_4, zf_217_5, zf_217_6, zc_217, za_218, za_219, za_220, za_221, za_222, zf_223_0, zf_223_1, zf_223_2, zf_223_3, zf_223_4, zf_223_5, zf_223_6, zf_223_7, zf_223_8, zf_223_9, zf_223_10, zf_223_11, zf_223_12, zf_223_13, zf_223_14, zf_223_15, zc_223, za_224, za_225, za_226, za_227, za_228, za_229, za_230, za_231, zan_231, za_232, za_233, za_234, zf_235_0, zf_235_1, zf_235_2, zf_235_3, zc_235, za_236, zan_236, za_237, za_238, zan_238, za_239, zan_239, zr_0_0, zr_0_3, zr_0_4, zr_0_5, zr_0_6, zr_0_7, zr_0_8, zr_0_9, zr_0_10, zr_0_11, zr_0_12, zr_0_13, zr_0_15, zr_2_0, zr_2_1, zr_2_5, zr_2_6, zr_2_7, zr_2_8, zr_2_9, zr_11_0, zr_11_1, zr_11_2, zr_11_4, zr_11_5, zr_13_0, zr_13_1, zr_17_0, zr_17_1, zr_201_0, zr_201_1, zr_207_5, zr_207_7, zr_207_9, zr_207_10, zr_207_11, zr_207_12, zr_207_13, zr_217_2, zr_217_3, zr_217_4, zr_217_5, zr_217_6, zr_223_2, zr_223_3, zr_223_4, zr_223_5, zr_223_6, zr_223_7, zr_223_8, zr_223_9, zr_223_10, zr_223_12, zr_223_13, zr_235_0, zr_235_2, zR_h, zR_s, zR_t, za_12, zr_12, zff_21, zff_22, zff_25, zfc_21, zfc_22, zfc_25, zfa_23, zfa_24, zfa_26, zfa_27, zfa_28, zfa_29, zfr_21_0, zfr_21_1, zfr_21_2, zfr_21_3, zfr_22_0, zfr_22_1, zfr_25_0, zfr_25_1]
    exact h2 j hz
  | none =>
    simp only [zoi]
    simp (disch := first | omega | decide) only [k62_6, k62_8, k62_10, k62_11, k62_14, k62_15, k62_16, k62_17, k62_23, k62_25, ↓zite, ↓reduceIte, zadd1, ↓zli_0, ↓zli_s, ↓zll_0, ↓zll_s, ↓zla_r, ↓zla_n, ↓zla_x, ↓zla_v, ↓zla_s, ↓zst_0, ↓zst_1, ↓zst_s, ↓zst2_0, ↓zst2_1, ↓zst2_s, zki_i, zki_r, zki_n, zki_x, zki_l, zki_0, zki_v, zwt_0, zwt_i, zwt_l, zwt_r, zwt_n, zwt_x, zwt_v, zrv_0, zrv_s, zca_r, zca_n, zca_i, zca_l, zca_v, true_and, and_true, and_self, true_imp_iff, false_imp_iff, imp_self, not_true_eq_false, not_false_eq_true, forall_const, Nat.reduceAdd, Nat.reduceLeDiff, z01_0, z01_1, zlt0, zge0, zu_s, zu_n, zu_d, zu_c, nI_add, nI_clamp, false_or, or_false, false_and, and_false, zlt, zle, zeq, zeq0, zgt0, zle0, zsub, zm1, zne1, zle_t, zle_f, zlt_t, zlt_f, zen_t, zen_f, Option.toList_none, Option.toList_some, List.nil_append, List.cons_append, Nat.add_sub_cancel, zf_0_0, zf_0_1, zf_0_2, zf_0_3, zf_0_4, zf_0_5, zf_0_6, zf_0_7, zf_0_8, zf_0_9, zf_0_10, zf_0_11, zf_0_12, zf_0_13, zf_0_14, zf_0_15, zf_0_16, zf_0_17, zc_0, za_1, zan_1, zf_2_0, zf_2_1, zf_2_2, zf_2_3, zf_2_4, zf_2_5, zf_2_6, zf_2_7, zf_2_8, zf_2_9, zf_2_10, zf_2_11, zc_2, zf_3_0, zf_3_1, zf_3_2, zf_3_3, zf_3_4, zf_3_5, zf_3_6, zc_3, za_4, zan_4, za_5, za_6, za_7, za_8, za_9, za_10, zf_11_0, zf_11_1, zf_11_2, zf_11_3, zf_11_4, zf_11_5, zc_11, zf_13_0, zf_13_1, zf_13_2, zc_13, za_14, za_15, za_16, zf_17_0, zf_17_1, zf_17_2, zc_17, za_18, za_19, za_20, zf_201_0, zf_201_1, zf_201_2, zc_201, za_202, za_203, za_204, za_205, za_206, zf_207_0, zf_207_1, zf_207_2, zf_207_3, zf_207_4, zf_207_5, zf_207_6, zf_207_7, zf_207_8, zf_207_9, zf_207_10, zf_207_11, zf_207_12, zf_207_13, zc_207, za_208, za_209, za_210, za_211, za_212, za_213, za_214, za_215, za_216, zf_217_0, zf_217_1, zf_217_2, zf_217_3, zf_217_4, zf_217_5, zf_217_6, zc_217, za_218, za_219, za_220, za_221, za_222, zf_223_0, zf_223_1, zf_223_2, zf_223_3, zf_223_4, zf_223_5, zf_223_6, zf_223_7, zf_223_8, zf_223_9, zf_223_10, zf_223_11, zf_223_12, zf_223_13, zf_223_14, zf_223_15, zc_223, za_224, za_225, za_226, za_227, za_228, za_229, za_230, za_231, zan_231, za_232, za_233, za_234, zf_235_0, zf_235_1, zf_235_2, zf_235_3, zc_235, za_236, zan_236, za_237, za_238, zan_238, za_239, zan_239, zr_0_0, zr_0_3, zr_0_4, zr_0_5, zr_0_6, zr_0_7, zr_0_8, zr_0_9, zr_0_10, zr_0_11, zr_0_12, zr_0_13, zr_0_15, zr_2_0, zr_2_1, zr_2_5, zr_2_6, zr_2_7, zr_2_8, zr_2_9, zr_11_0, zr_11_1, zr_11_2, zr_11_4, zr_11_5, zr_13_0, zr_13_1, zr_17_0, zr_17_1, zr_201_0, zr_201_1, zr_207_5, zr_207_7, zr_207_9, zr_207_10, zr_207_11, zr_207_12, zr_207_13, zr_217_2, zr_217_3, zr_217_4, zr_217_5, zr_217_6, zr_223_2, zr_223_3, zr_223_4, zr_223_5, zr_223_6, zr_223_7, zr_223_8, zr_223_9, zr_223_10, zr_223_12, zr_223_13, zr_235_0, zr_235_2, zR_h, zR_s, zR_t, za_12, zr_12, zff_21, zff_22, zff_25, zfc_21, zfc_22, zfc_25, zfa_23, zfa_24, zfa_26, zfa_27, zfa_28, zfa_29, zfr_21_0, zfr_21_1, zfr_21_2, zfr_21_3, zfr_22_0, zfr_22_1, zfr_25_0, zfr_25_1]
    refine c_add_201 (by omega) h1 ?_
    rw [if_pos hvc]
    simp (disch := first | omega | decide) only [k62_20, k62_25, ↓zite, ↓reduceIte, zadd1, ↓zli_0, ↓zli_s, ↓zll_0, ↓zll_s, ↓zla_r, ↓zla_n, ↓zla_x, ↓zla_v, ↓zla_s, ↓zst_0, ↓zst_1, ↓zst_s, ↓zst2_0, ↓zst2_1, ↓zst2_s, zki_i, zki_r, zki_n, zki_x, zki_l, zki_0, zki_v, zwt_0, zwt_i, zwt_l, zwt_r, zwt_n, zwt_x, zwt_v, zrv_0, zrv_s, zca_r, zca_n, zca_i, zca_l, zca_v, true_and, and_true, and_self, true_imp_iff, false_imp_iff, imp_self, not_true_eq_false, not_false_eq_true, forall_const, Nat.reduceAdd, Nat.reduceLeDiff, z01_0, z01_1, zlt0, zge0, zu_s, zu_n, zu_d, zu_c, nI_add, nI_clamp, false_or, or_false, false_and, and_false, zlt, zle, zeq, zeq0, zgt0, zle0, zsub, zm1, zne1, zle_t, zle_f, zlt_t, zlt_f, zen_t, zen_f, Option.toList_none, Option.toList_some, List.nil_append, List.cons_append, Nat.add_sub_cancel, zf_0_0, zf_0_1, zf_0_2, zf_0_3, zf_0_4, zf_0_5, zf_0_6, zf_0_7, zf_0_8, zf_0_9, zf_0_10, zf_0_11, zf_0_12, zf_0_13, zf_0_14, zf_0_15, zf_0_16, zf_0_17, zc_0, za_1, zan_1, zf_2_0, zf_2_1, zf_2_2, zf_2_3, zf_2_4, zf_2_5, zf_2_6, zf_2_7, zf_2_8, zf_2_9, zf_2_10, zf_2_11, zc_2, zf_3_0, zf_3_1, zf_3_2, zf_3_3, zf_3_4, zf_3_5, zf_3_6, zc_3, za_4, zan_4, za_5, za_6, za_7, za_8, za_9, za_10, zf_11_0, zf_11_1, zf_11_2, zf_11_3, zf_11_4, zf_11_5, zc_11, zf_13_0, zf_13_1, zf_13_2, zc_13, za_14, za_15, za_16, zf_17_0, zf_17_1, zf_17_2, zc_17, za_18, za_19, za_20, zf_201_0, zf_201_1, zf_201_2, zc_201, za_202, za_203, za_204, za_205, za_206, zf_207_0, zf_207_1, zf_207_2, zf_207_3, zf_207_4, zf_207_5, zf_207_6, zf_207_7, zf_207_8, zf_207_9, zf_207_10, zf_207_11, zf_207_12, zf_207_13, zc_207, za_208, za_209, za_210, za_211, za_212, za_213, za_214, za_215, za_216, zf_217_0, zf_217_1, zf_217_2, zf_217_3, zf_217_4, zf_217_5, zf_217_6, zc_217, za_218, za_219, za_220, za_221, za_222, zf_223_0, zf_223_1, zf_223_2, zf_223_3, zf_223_4, zf_223_5, zf_223_6, zf_223_7, zf_223_8, zf_223_9, zf_223_10, zf_223_11, zf_223_12, zf_223_13, zf_223_14, zf_223_15, zc_223, za_224, za_225, za_226, za_227, za_228, za_229, za_230, za_231, zan_231, za_232, za_233, za_234, zf_235_0, zf_235_1, zf_235_2, zf_235_3, zc_235, za_236, zan_236, za_237, za_238, zan_238, za_239, zan_239, zr_0_0, zr_0_3, zr_0_4, zr_0_5, zr_0_6, zr_0_7, zr_0_8, zr_0_9, zr_0_10, zr_0_11, zr_0_12, zr_0_13, zr_0_15, zr_2_0, zr_2_1, zr_2_5, zr_2_6, zr_2_7, zr_2_8, zr_2_9, zr_11_0, zr_11_1, zr_11_2, zr_11_4, zr_11_5, zr_13_0, zr_13_1, zr_17_0, zr_17_1, zr_201_0, zr_201_1, zr_207_5, zr_207_7, zr_207_9, zr_207_10, zr_207_11, zr_207_12, zr_207_13, zr_217_2, zr_217_3, zr_217_4, zr_217_5, zr_217_6, zr_223_2, zr_223_3, zr_223_4, zr_223_5, zr_223_6, zr_223_7, zr_223_8, zr_223_9, zr_223_10, zr_223_12, zr_223_13, zr_235_0, zr_235_2, zR_h, zR_s, zR_t, za_12, zr_12, zff_21, zff_22, zff_25, zfc_21, zfc_22, zfc_25, zfa_23, zfa_24, zfa_26, zfa_27, zfa_28, zfa_29, zfr_21_0, zfr_21_1, zfr_21_2, zfr_21_3, zfr_22_0, zfr_22_1, zfr_25_0, zfr_25_1]
    exact h3 hz _ _ rfl rfl
theorem zTX.frE {I' : tI} {J' : tJ} (h : zTX nm at_ pa so sd c I J) (f : zfE I J I' J') : zTX nm at_ pa so sd c I' J' := by
  obtain ⟨h1, h2, h3⟩ := h
  refine ⟨by rw [f.1 2 (by decide) (by decide) (by decide)]; exact h1, by rw [f.1 2 (by decide) (by decide) (by decide)]; exact h2, fun i hi => ?_⟩
  rw [f.1 6 (by decide) (by decide) (by decide), f.2 7 (by decide), f.1 8 (by decide) (by decide) (by decide), f.1 9 (by decide) (by decide) (by decide), f.1 10 (by decide) (by decide) (by decide)]
  exact h3 i hi
theorem zKCs.frE {I' : tI} {J' : tJ} (h : zKCs K I J) (f : zfE I J I' J') : zKCs K I' J' := by
  obtain ⟨h1, h2⟩ := h
  refine ⟨by rw [f.1 13 (by decide) (by decide) (by decide)]; exact h1, fun i hi => ?_⟩
  rw [f.2 14 (by decide), f.1 15 (by decide) (by decide) (by decide), f.1 16 (by decide) (by decide) (by decide)]
  exact h2 i hi
set_option maxRecDepth 100000 in
set_option maxHeartbeats 4000000 in
theorem l_takeTerms {l5 : Option Value} (hK : zKv K) (hc : c ≤ 2000) (hv : ∀ i, i < c → zvn (nm i) ∧ pa i ≤ 4000) (hat : ∀ i, i < c → at_ i ≤ 4000)
    (hN : ∀ k e I' J', k < c → zte K.sc K.sn K.sa nm (fun i => ziv (nm i)) pa k = some e → zte1 K.sc K.sn K.sa (nm k) (ziv (nm k)) (pa k) k e = none → zfE I J I' J' → Q (some (.int (nI (at_ k)))) zE I' J' (zR hp sp tp))
    (hY : ∀ e I' J', zte K.sc K.sn K.sa nm (fun i => ziv (nm i)) pa c = some e → zCE c e I' J' → zfE I J I' J' → Q (some (.int (-1))) zE I' J' (zR hp sp tp)) : ∀ f k, k + f = c → ∀ e I0 J0 l5, zte K.sc K.sn K.sa nm (fun i => ziv (nm i)) pa k = some e → zTX nm at_ pa so sd c I0 J0 → zKCs K I0 J0 → zCE k e I0 J0 → zfE I J I0 J0 → wp X 61 8 [some (.ref 11), some (.ref 2), some (.ref 201), some (.ref 204), some (.int (nI k)), l5] [] zE I0 J0 (zR hp sp tp) Q := by
  intro f
  induction f with
  | zero =>
    intro k hk e I0 J0 l5 he hx hs hC hf
    have : k = c := by omega
    subst this
    have x2 := hx.2.1
    rw [k61_8]
    simp (disch := first | omega | decide) only [k61_10, k61_11, k61_14, k61_17, k61_18, k61_20, k61_23, k61_26, k61_27, k61_28, k61_29, k61_32, k61_34, k61_35, k61_36, k61_39, k61_41, k61_42, k61_45, k61_46, k61_49, k61_50, k61_51, k61_53, k61_56, k61_58, k61_60, k61_62, k61_65, k61_66, k61_69, k61_71, k61_72, k61_73, k61_74, k61_76, k61_78, k61_79, k61_82, k61_85, k61_86, ↓zite, ↓reduceIte, zadd1, ↓zli_0, ↓zli_s, ↓zll_0, ↓zll_s, ↓zla_r, ↓zla_n, ↓zla_x, ↓zla_v, ↓zla_s, ↓zst_0, ↓zst_1, ↓zst_s, ↓zst2_0, ↓zst2_1, ↓zst2_s, zki_i, zki_r, zki_n, zki_x, zki_l, zki_0, zki_v, zwt_0, zwt_i, zwt_l, zwt_r, zwt_n, zwt_x, zwt_v, zrv_0, zrv_s, zca_r, zca_n, zca_i, zca_l, zca_v, true_and, and_true, and_self, true_imp_iff, false_imp_iff, imp_self, not_true_eq_false, not_false_eq_true, forall_const, Nat.reduceAdd, Nat.reduceLeDiff, z01_0, z01_1, zlt0, zge0, zu_s, zu_n, zu_d, zu_c, nI_add, nI_clamp, false_or, or_false, false_and, and_false, zlt, zle, zeq, zeq0, zgt0, zle0, zsub, zm1, zne1, zle_t, zle_f, zlt_t, zlt_f, zen_t, zen_f, Option.toList_none, Option.toList_some, List.nil_append, List.cons_append, Nat.add_sub_cancel, zf_0_0, zf_0_1, zf_0_2, zf_0_3, zf_0_4, zf_0_5, zf_0_6, zf_0_7, zf_0_8, zf_0_9, zf_0_10, zf_0_11, zf_0_12, zf_0_13, zf_0_14, zf_0_15, zf_0_16, zf_0_17, zc_0, za_1, zan_1, zf_2_0, zf_2_1, zf_2_2, zf_2_3, zf_2_4, zf_2_5, zf_2_6, zf_2_7, zf_2_8, zf_2_9, zf_2_10, zf_2_11, zc_2, zf_3_0, zf_3_1, zf_3_2, zf_3_3, zf_3_4, zf_3_5, zf_3_6, zc_3, za_4, zan_4, za_5, za_6, za_7, za_8, za_9, za_10, zf_11_0, zf_11_1, zf_11_2, zf_11_3, zf_11_4, zf_11_5, zc_11, zf_13_0, zf_13_1, zf_13_2, zc_13, za_14, za_15, za_16, zf_17_0, zf_17_1, zf_17_2, zc_17, za_18, za_19, za_20, zf_201_0, zf_201_1, zf_201_2, zc_201, za_202, za_203, za_204, za_205, za_206, zf_207_0, zf_207_1, zf_207_2, zf_207_3, zf_207_4, zf_207_5, zf_207_6, zf_207_7, zf_207_8, zf_207_9, zf_207_10, zf_207_11, zf_207_12, zf_207_13, zc_207, za_208, za_209, za_210, za_211, za_212, za_213, za_214, za_215, za_216, zf_217_0, zf_217_1, zf_217_2, zf_217_3, zf_217_4, zf_217_5, zf_217_6, zc_217, za_218, za_219, za_220, za_221, za_222, zf_223_0, zf_223_1, zf_223_2, zf_223_3, zf_223_4, zf_223_5, zf_223_6, zf_223_7, zf_223_8, zf_223_9, zf_223_10, zf_223_11, zf_223_12, zf_223_13, zf_223_14, zf_223_15, zc_223, za_224, za_225, za_226, za_227, za_228, za_229, za_230, za_231, zan_231, za_232, za_233, za_234, zf_235_0, zf_235_1, zf_235_2, zf_235_3, zc_235, za_236, zan_236, za_237, za_238, zan_238, za_239, zan_239, zr_0_0, zr_0_3, zr_0_4, zr_0_5, zr_0_6, zr_0_7, zr_0_8, zr_0_9, zr_0_10, zr_0_11, zr_0_12, zr_0_13, zr_0_15, zr_2_0, zr_2_1, zr_2_5, zr_2_6, zr_2_7, zr_2_8, zr_2_9, zr_11_0, zr_11_1, zr_11_2, zr_11_4, zr_11_5, zr_13_0, zr_13_1, zr_17_0, zr_17_1, zr_201_0, zr_201_1, zr_207_5, zr_207_7, zr_207_9, zr_207_10, zr_207_11, zr_207_12, zr_207_13, zr_217_2, zr_217_3, zr_217_4, zr_217_5, zr_217_6, zr_223_2, zr_223_3, zr_223_4, zr_223_5, zr_223_6, zr_223_7, zr_223_8, zr_223_9, zr_223_10, zr_223_12, zr_223_13, zr_235_0, zr_235_2, zR_h, zR_s, zR_t, za_12, zr_12, zff_21, zff_22, zff_25, zfc_21, zfc_22, zfc_25, zfa_23, zfa_24, zfa_26, zfa_27, zfa_28, zfa_29, zfr_21_0, zfr_21_1, zfr_21_2, zfr_21_3, zfr_22_0, zfr_22_1, zfr_25_0, zfr_25_1, x2]
    exact hY e I0 J0 he hC hf
  | succ f ih =>
    intro k hk e I0 J0 l5 he hx hs hC hf
    have hkc : k < c := by omega
    have x2 := hx.2.1
    obtain ⟨x6, x7, x8, x9, x10⟩ := hx.2.2 k hkc
    have hE := zEI_all (c := c) (fun i hi => (hv i hi).1) k e (by omega) he
    obtain ⟨hl, hp4⟩ := hv k hkc
    have hak := hat k hkc
    obtain ⟨vc, vn, w⟩ := e
    obtain ⟨e1, e2, e3⟩ := hE
    obtain ⟨c1, c2, c3⟩ := hC
    have next : ∀ e' I1 J1 (x : Nat), x < 4000 → (x < 100 ∨ 1000 ≤ x) → zte1 K.sc K.sn K.sa (nm k) (ziv (nm k)) (pa k) k (vc, vn, w) = some e' → e'.2.2 = va_up w k x → I1 201 2 = nI e'.1 → (∀ v, v < e'.1 → J1 202 v = zHd (e'.2.1 v) ∧ I1 203 v = zTl (e'.2.1 v)) → (∀ i, i < k → I1 204 i = zct (w i)) → zfE I0 J0 I1 J1 → wp X 61 56 [some (.ref 11), some (.ref 2), some (.ref 201), some (.ref 204), some (.int (nI k)), l5] [.int (zct x)] zE I1 J1 (zR hp sp tp) Q := by
      intro e' I1 J1 x hx4 hxx q1 q2 q3 q4 q5 q6
      have hno : (zct x = -1000000) = False := by
        rcases hxx with q | q
        · rw [zct_s q]; exact zno_n (by omega)
        · exact zct_no q (by omega)
      simp (disch := first | omega | decide) only [k61_56, k61_58, k61_60, k61_62, k61_65, k61_66, k61_69, k61_71, k61_72, k61_73, k61_74, k61_76, k61_78, k61_79, k61_82, ↓zite, ↓reduceIte, zadd1, ↓zli_0, ↓zli_s, ↓zll_0, ↓zll_s, ↓zla_r, ↓zla_n, ↓zla_x, ↓zla_v, ↓zla_s, ↓zst_0, ↓zst_1, ↓zst_s, ↓zst2_0, ↓zst2_1, ↓zst2_s, zki_i, zki_r, zki_n, zki_x, zki_l, zki_0, zki_v, zwt_0, zwt_i, zwt_l, zwt_r, zwt_n, zwt_x, zwt_v, zrv_0, zrv_s, zca_r, zca_n, zca_i, zca_l, zca_v, true_and, and_true, and_self, true_imp_iff, false_imp_iff, imp_self, not_true_eq_false, not_false_eq_true, forall_const, Nat.reduceAdd, Nat.reduceLeDiff, z01_0, z01_1, zlt0, zge0, zu_s, zu_n, zu_d, zu_c, nI_add, nI_clamp, false_or, or_false, false_and, and_false, zlt, zle, zeq, zeq0, zgt0, zle0, zsub, zm1, zne1, zle_t, zle_f, zlt_t, zlt_f, zen_t, zen_f, Option.toList_none, Option.toList_some, List.nil_append, List.cons_append, Nat.add_sub_cancel, zf_0_0, zf_0_1, zf_0_2, zf_0_3, zf_0_4, zf_0_5, zf_0_6, zf_0_7, zf_0_8, zf_0_9, zf_0_10, zf_0_11, zf_0_12, zf_0_13, zf_0_14, zf_0_15, zf_0_16, zf_0_17, zc_0, za_1, zan_1, zf_2_0, zf_2_1, zf_2_2, zf_2_3, zf_2_4, zf_2_5, zf_2_6, zf_2_7, zf_2_8, zf_2_9, zf_2_10, zf_2_11, zc_2, zf_3_0, zf_3_1, zf_3_2, zf_3_3, zf_3_4, zf_3_5, zf_3_6, zc_3, za_4, zan_4, za_5, za_6, za_7, za_8, za_9, za_10, zf_11_0, zf_11_1, zf_11_2, zf_11_3, zf_11_4, zf_11_5, zc_11, zf_13_0, zf_13_1, zf_13_2, zc_13, za_14, za_15, za_16, zf_17_0, zf_17_1, zf_17_2, zc_17, za_18, za_19, za_20, zf_201_0, zf_201_1, zf_201_2, zc_201, za_202, za_203, za_204, za_205, za_206, zf_207_0, zf_207_1, zf_207_2, zf_207_3, zf_207_4, zf_207_5, zf_207_6, zf_207_7, zf_207_8, zf_207_9, zf_207_10, zf_207_11, zf_207_12, zf_207_13, zc_207, za_208, za_209, za_210, za_211, za_212, za_213, za_214, za_215, za_216, zf_217_0, zf_217_1, zf_217_2, zf_217_3, zf_217_4, zf_217_5, zf_217_6, zc_217, za_218, za_219, za_220, za_221, za_222, zf_223_0, zf_223_1, zf_223_2, zf_223_3, zf_223_4, zf_223_5, zf_223_6, zf_223_7, zf_223_8, zf_223_9, zf_223_10, zf_223_11, zf_223_12, zf_223_13, zf_223_14, zf_223_15, zc_223, za_224, za_225, za_226, za_227, za_228, za_229, za_230, za_231, zan_231, za_232, za_233, za_234, zf_235_0, zf_235_1, zf_235_2, zf_235_3, zc_235, za_236, zan_236, za_237, za_238, zan_238, za_239, zan_239, zr_0_0, zr_0_3, zr_0_4, zr_0_5, zr_0_6, zr_0_7, zr_0_8, zr_0_9, zr_0_10, zr_0_11, zr_0_12, zr_0_13, zr_0_15, zr_2_0, zr_2_1, zr_2_5, zr_2_6, zr_2_7, zr_2_8, zr_2_9, zr_11_0, zr_11_1, zr_11_2, zr_11_4, zr_11_5, zr_13_0, zr_13_1, zr_17_0, zr_17_1, zr_201_0, zr_201_1, zr_207_5, zr_207_7, zr_207_9, zr_207_10, zr_207_11, zr_207_12, zr_207_13, zr_217_2, zr_217_3, zr_217_4, zr_217_5, zr_217_6, zr_223_2, zr_223_3, zr_223_4, zr_223_5, zr_223_6, zr_223_7, zr_223_8, zr_223_9, zr_223_10, zr_223_12, zr_223_13, zr_235_0, zr_235_2, zR_h, zR_s, zR_t, za_12, zr_12, zff_21, zff_22, zff_25, zfc_21, zfc_22, zfc_25, zfa_23, zfa_24, zfa_26, zfa_27, zfa_28, zfa_29, zfr_21_0, zfr_21_1, zfr_21_2, zfr_21_3, zfr_22_0, zfr_22_1, zfr_25_0, zfr_25_1, hno]
      refine ih (k + 1) (by omega) e' _ J1 _ (by simp only [zte, he]; exact q1) ((hx.frE q6).frE ⟨fun o _ _ o3 => zu_n o3, fun _ _ => rfl⟩) ((hs.frE q6).frE ⟨fun o _ _ o3 => zu_n o3, fun _ _ => rfl⟩) ?_ ((hf.tr q6).tr ⟨fun o _ _ o3 => zu_n o3, fun _ _ => rfl⟩)
      obtain ⟨vc', vn', w'⟩ := e'
      dsimp only at q2 q3 q4
      subst q2
      refine ⟨by rw [zu_n (by decide)]; exact q3, fun v hv => by rw [zu_n (by decide)]; exact q4 v hv, fun i hi => ?_⟩
      rw [zu_s]
      by_cases ei : i = k
      · subst ei; rw [zu_s, zu_s]
      · rw [zu_n ei, zu_n ei]; exact q5 i (by omega)
    rw [k61_8]
    simp (disch := first | omega | decide) only [k61_10, k61_11, k61_14, k61_17, k61_18, k61_20, k61_85, k61_86, ↓zite, ↓reduceIte, zadd1, ↓zli_0, ↓zli_s, ↓zll_0, ↓zll_s, ↓zla_r, ↓zla_n, ↓zla_x, ↓zla_v, ↓zla_s, ↓zst_0, ↓zst_1, ↓zst_s, ↓zst2_0, ↓zst2_1, ↓zst2_s, zki_i, zki_r, zki_n, zki_x, zki_l, zki_0, zki_v, zwt_0, zwt_i, zwt_l, zwt_r, zwt_n, zwt_x, zwt_v, zrv_0, zrv_s, zca_r, zca_n, zca_i, zca_l, zca_v, true_and, and_true, and_self, true_imp_iff, false_imp_iff, imp_self, not_true_eq_false, not_false_eq_true, forall_const, Nat.reduceAdd, Nat.reduceLeDiff, z01_0, z01_1, zlt0, zge0, zu_s, zu_n, zu_d, zu_c, nI_add, nI_clamp, false_or, or_false, false_and, and_false, zlt, zle, zeq, zeq0, zgt0, zle0, zsub, zm1, zne1, zle_t, zle_f, zlt_t, zlt_f, zen_t, zen_f, Option.toList_none, Option.toList_some, List.nil_append, List.cons_append, Nat.add_sub_cancel, zf_0_0, zf_0_1, zf_0_2, zf_0_3, zf_0_4, zf_0_5, zf_0_6, zf_0_7, zf_0_8, zf_0_9, zf_0_10, zf_0_11, zf_0_12, zf_0_13, zf_0_14, zf_0_15, zf_0_16, zf_0_17, zc_0, za_1, zan_1, zf_2_0, zf_2_1, zf_2_2, zf_2_3, zf_2_4, zf_2_5, zf_2_6, zf_2_7, zf_2_8, zf_2_9, zf_2_10, zf_2_11, zc_2, zf_3_0, zf_3_1, zf_3_2, zf_3_3, zf_3_4, zf_3_5, zf_3_6, zc_3, za_4, zan_4, za_5, za_6, za_7, za_8, za_9, za_10, zf_11_0, zf_11_1, zf_11_2, zf_11_3, zf_11_4, zf_11_5, zc_11, zf_13_0, zf_13_1, zf_13_2, zc_13, za_14, za_15, za_16, zf_17_0, zf_17_1, zf_17_2, zc_17, za_18, za_19, za_20, zf_201_0, zf_201_1, zf_201_2, zc_201, za_202, za_203, za_204, za_205, za_206, zf_207_0, zf_207_1, zf_207_2, zf_207_3, zf_207_4, zf_207_5, zf_207_6, zf_207_7, zf_207_8, zf_207_9, zf_207_10, zf_207_11, zf_207_12, zf_207_13, zc_207, za_208, za_209, za_210, za_211, za_212, za_213, za_214, za_215, za_216, zf_217_0, zf_217_1, zf_217_2, zf_217_3, zf_217_4, zf_217_5, zf_217_6, zc_217, za_218, za_219, za_220, za_221, za_222, zf_223_0, zf_223_1, zf_223_2, zf_223_3, zf_223_4, zf_223_5, zf_223_6, zf_223_7, zf_223_8, zf_223_9, zf_223_10, zf_223_11, zf_223_12, zf_223_13, zf_223_14, zf_223_15, zc_223, za_224, za_225, za_226, za_227, za_228, za_229, za_230, za_231, zan_231, za_232, za_233, za_234, zf_235_0, zf_235_1, zf_235_2, zf_235_3, zc_235, za_236, zan_236, za_237, za_238, zan_238, za_239, zan_239, zr_0_0, zr_0_3, zr_0_4, zr_0_5, zr_0_6, zr_0_7, zr_0_8, zr_0_9, zr_0_10, zr_0_11, zr_0_12, zr_0_13, zr_0_15, zr_2_0, zr_2_1, zr_2_5, zr_2_6, zr_2_7, zr_2_8, zr_2_9, zr_11_0, zr_11_1, zr_11_2, zr_11_4, zr_11_5, zr_13_0, zr_13_1, zr_17_0, zr_17_1, zr_201_0, zr_201_1, zr_207_5, zr_207_7, zr_207_9, zr_207_10, zr_207_11, zr_207_12, zr_207_13, zr_217_2, zr_217_3, zr_217_4, zr_217_5, zr_217_6, zr_223_2, zr_223_3, zr_223_4, zr_223_5, zr_223_6, zr_223_7, zr_223_8, zr_223_9, zr_223_10, zr_223_12, zr_223_13, zr_235_0, zr_235_2, zR_h, zR_s, zR_t, za_12, zr_12, zff_21, zff_22, zff_25, zfc_21, zfc_22, zfc_25, zfa_23, zfa_24, zfa_26, zfa_27, zfa_28, zfa_29, zfr_21_0, zfr_21_1, zfr_21_2, zfr_21_3, zfr_22_0, zfr_22_1, zfr_25_0, zfr_25_1, x2]
    refine c_isVar (by omega) hl x7 ?_
    cases hiv : ziv (nm k) with
    | true =>
      rw [hiv] at next
      simp (disch := first | omega | decide) only [k61_8, k61_10, k61_11, k61_14, k61_17, k61_18, k61_20, k61_23, k61_26, k61_27, k61_28, k61_29, k61_32, k61_34, k61_35, k61_36, k61_39, k61_41, k61_42, k61_49, k61_50, k61_51, k61_53, k61_56, k61_58, k61_60, k61_62, k61_65, k61_66, k61_69, k61_71, k61_72, k61_73, k61_74, k61_76, k61_78, k61_79, k61_82, k61_85, k61_86, ↓zite, ↓reduceIte, zadd1, ↓zli_0, ↓zli_s, ↓zll_0, ↓zll_s, ↓zla_r, ↓zla_n, ↓zla_x, ↓zla_v, ↓zla_s, ↓zst_0, ↓zst_1, ↓zst_s, ↓zst2_0, ↓zst2_1, ↓zst2_s, zki_i, zki_r, zki_n, zki_x, zki_l, zki_0, zki_v, zwt_0, zwt_i, zwt_l, zwt_r, zwt_n, zwt_x, zwt_v, zrv_0, zrv_s, zca_r, zca_n, zca_i, zca_l, zca_v, true_and, and_true, and_self, true_imp_iff, false_imp_iff, imp_self, not_true_eq_false, not_false_eq_true, forall_const, Nat.reduceAdd, Nat.reduceLeDiff, z01_0, z01_1, zlt0, zge0, zu_s, zu_n, zu_d, zu_c, nI_add, nI_clamp, false_or, or_false, false_and, and_false, zlt, zle, zeq, zeq0, zgt0, zle0, zsub, zm1, zne1, zle_t, zle_f, zlt_t, zlt_f, zen_t, zen_f, Option.toList_none, Option.toList_some, List.nil_append, List.cons_append, Nat.add_sub_cancel, zf_0_0, zf_0_1, zf_0_2, zf_0_3, zf_0_4, zf_0_5, zf_0_6, zf_0_7, zf_0_8, zf_0_9, zf_0_10, zf_0_11, zf_0_12, zf_0_13, zf_0_14, zf_0_15, zf_0_16, zf_0_17, zc_0, za_1, zan_1, zf_2_0, zf_2_1, zf_2_2, zf_2_3, zf_2_4, zf_2_5, zf_2_6, zf_2_7, zf_2_8, zf_2_9, zf_2_10, zf_2_11, zc_2, zf_3_0, zf_3_1, zf_3_2, zf_3_3, zf_3_4, zf_3_5, zf_3_6, zc_3, za_4, zan_4, za_5, za_6, za_7, za_8, za_9, za_10, zf_11_0, zf_11_1, zf_11_2, zf_11_3, zf_11_4, zf_11_5, zc_11, zf_13_0, zf_13_1, zf_13_2, zc_13, za_14, za_15, za_16, zf_17_0, zf_17_1, zf_17_2, zc_17, za_18, za_19, za_20, zf_201_0, zf_201_1, zf_201_2, zc_201, za_202, za_203, za_204, za_205, za_206, zf_207_0, zf_207_1, zf_207_2, zf_207_3, zf_207_4, zf_207_5, zf_207_6, zf_207_7, zf_207_8, zf_207_9, zf_207_10, zf_207_11, zf_207_12, zf_207_13, zc_207, za_208, za_209, za_210, za_211, za_212, za_213, za_214, za_215, za_216, zf_217_0, zf_217_1, zf_217_2, zf_217_3, zf_217_4, zf_217_5, zf_217_6, zc_217, za_218, za_219, za_220, za_221, za_222, zf_223_0, zf_223_1, zf_223_2, zf_223_3, zf_223_4, zf_223_5, zf_223_6, zf_223_7, zf_223_8, zf_223_9, zf_223_10, zf_223_11, zf_223_12, zf_223_13, zf_223_14, zf_223_15, zc_223, za_224, za_225, za_226, za_227, za_228, za_229, za_230, za_231, zan_231, za_232, za_233, za_234, zf_235_0, zf_235_1, zf_235_2, zf_235_3, zc_235, za_236, zan_236, za_237, za_238, zan_238, za_239, zan_239, zr_0_0, zr_0_3, zr_0_4, zr_0_5, zr_0_6, zr_0_7, zr_0_8, zr_0_9, zr_0_10, zr_0_11, zr_0_12, zr_0_13, zr_0_15, zr_2_0, zr_2_1, zr_2_5, zr_2_6, zr_2_7, zr_2_8, zr_2_9, zr_11_0, zr_11_1, zr_11_2, zr_11_4, zr_11_5, zr_13_0, zr_13_1, zr_17_0, zr_17_1, zr_201_0, zr_201_1, zr_207_5, zr_207_7, zr_207_9, zr_207_10, zr_207_11, zr_207_12, zr_207_13, zr_217_2, zr_217_3, zr_217_4, zr_217_5, zr_217_6, zr_223_2, zr_223_3, zr_223_4, zr_223_5, zr_223_6, zr_223_7, zr_223_8, zr_223_9, zr_223_10, zr_223_12, zr_223_13, zr_235_0, zr_235_2, zR_h, zR_s, zR_t, za_12, zr_12, zff_21, zff_22, zff_25, zfc_21, zfc_22, zfc_25, zfa_23, zfa_24, zfa_26, zfa_27, zfa_28, zfa_29, zfr_21_0, zfr_21_1, zfr_21_2, zfr_21_3, zfr_22_0, zfr_22_1, zfr_25_0, zfr_25_1, zbi_0, reduceCtorEq, x7, x8]
      refine c_findOrAdd (vc := vc) (vn := vn) (by omega) hl e2 c1 c2 (fun j hz => ?_) (fun hz I1 J1 eI eJ => ?_)
      · have hj := (zfn_lt hz).1
        simp only [Option.toList_some, List.cons_append, List.nil_append]
        rw [k61_45, zct_v, k61_46]
        exact next (vc, vn, va_up w k (1000 + j)) I0 J0 (1000 + j) (by omega) (Or.inr (by omega)) (by simp only [zte1, if_true, hz]) rfl c1 c2 c3 zfE.rf
      · simp only [Option.toList_some, List.cons_append, List.nil_append]
        rw [k61_45, zct_v, k61_46]
        refine next (vc + 1, va_up vn vc (nm k), va_up w k (1000 + vc)) I1 J1 (1000 + vc) (by omega) (Or.inr (by omega)) (by simp only [zte1, if_true, hz]) rfl (by rw [eI, zu_n (by decide), zu_s, zu_s]) (fun v hv' => ?_) (fun i hi => by rw [eI, zu_n (by decide), zu_n (by decide)]; exact c3 i hi) ⟨fun o o1 o2 _ => by rw [eI, zu_n o2, zu_n o1], fun o o1 => by rw [eJ, zu_n o1]⟩
        rw [eI, eJ, zu_s, zu_s]
        dsimp only at hv' ⊢
        by_cases ev : v = vc
        · subst ev; rw [zu_s, zu_s, zu_s]; exact ⟨rfl, rfl⟩
        · rw [zu_n ev, zu_n ev, zu_n ev]; exact c2 v (by omega)
    | false =>
      rw [hiv] at next
      simp (disch := first | omega | decide) only [k61_23, k61_26, k61_27, k61_28, k61_29, k61_32, k61_34, k61_35, k61_36, k61_39, k61_41, k61_42, k61_45, k61_46, k61_49, k61_50, k61_51, k61_53, ↓zite, ↓reduceIte, zadd1, ↓zli_0, ↓zli_s, ↓zll_0, ↓zll_s, ↓zla_r, ↓zla_n, ↓zla_x, ↓zla_v, ↓zla_s, ↓zst_0, ↓zst_1, ↓zst_s, ↓zst2_0, ↓zst2_1, ↓zst2_s, zki_i, zki_r, zki_n, zki_x, zki_l, zki_0, zki_v, zwt_0, zwt_i, zwt_l, zwt_r, zwt_n, zwt_x, zwt_v, zrv_0, zrv_s, zca_r, zca_n, zca_i, zca_l, zca_v, true_and, and_true, and_self, true_imp_iff, false_imp_iff, imp_self, not_true_eq_false, not_false_eq_true, forall_const, Nat.reduceAdd, Nat.reduceLeDiff, z01_0, z01_1, zlt0, zge0, zu_s, zu_n, zu_d, zu_c, nI_add, nI_clamp, false_or, or_false, false_and, and_false, zlt, zle, zeq, zeq0, zgt0, zle0, zsub, zm1, zne1, zle_t, zle_f, zlt_t, zlt_f, zen_t, zen_f, Option.toList_none, Option.toList_some, List.nil_append, List.cons_append, Nat.add_sub_cancel, zf_0_0, zf_0_1, zf_0_2, zf_0_3, zf_0_4, zf_0_5, zf_0_6, zf_0_7, zf_0_8, zf_0_9, zf_0_10, zf_0_11, zf_0_12, zf_0_13, zf_0_14, zf_0_15, zf_0_16, zf_0_17, zc_0, za_1, zan_1, zf_2_0, zf_2_1, zf_2_2, zf_2_3, zf_2_4, zf_2_5, zf_2_6, zf_2_7, zf_2_8, zf_2_9, zf_2_10, zf_2_11, zc_2, zf_3_0, zf_3_1, zf_3_2, zf_3_3, zf_3_4, zf_3_5, zf_3_6, zc_3, za_4, zan_4, za_5, za_6, za_7, za_8, za_9, za_10, zf_11_0, zf_11_1, zf_11_2, zf_11_3, zf_11_4, zf_11_5, zc_11, zf_13_0, zf_13_1, zf_13_2, zc_13, za_14, za_15, za_16, zf_17_0, zf_17_1, zf_17_2, zc_17, za_18, za_19, za_20, zf_201_0, zf_201_1, zf_201_2, zc_201, za_202, za_203, za_204, za_205, za_206, zf_207_0, zf_207_1, zf_207_2, zf_207_3, zf_207_4, zf_207_5, zf_207_6, zf_207_7, zf_207_8, zf_207_9, zf_207_10, zf_207_11, zf_207_12, zf_207_13, zc_207, za_208, za_209, za_210, za_211, za_212, za_213, za_214, za_215, za_216, zf_217_0, zf_217_1, zf_217_2, zf_217_3, zf_217_4, zf_217_5, zf_217_6, zc_217, za_218, za_219, za_220, za_221, za_222, zf_223_0, zf_223_1, zf_223_2, zf_223_3, zf_223_4, zf_223_5, zf_223_6, zf_223_7, zf_223_8, zf_223_9, zf_223_10, zf_223_11, zf_223_12, zf_223_13, zf_223_14, zf_223_15, zc_223, za_224, za_225, za_226, za_227, za_228, za_229, za_230, za_231, zan_231, za_232, za_233, za_234, zf_235_0, zf_235_1, zf_235_2, zf_235_3, zc_235, za_236, zan_236, za_237, za_238, zan_238, za_239, zan_239, zr_0_0, zr_0_3, zr_0_4, zr_0_5, zr_0_6, zr_0_7, zr_0_8, zr_0_9, zr_0_10, zr_0_11, zr_0_12, zr_0_13, zr_0_15, zr_2_0, zr_2_1, zr_2_5, zr_2_6, zr_2_7, zr_2_8, zr_2_9, zr_11_0, zr_11_1, zr_11_2, zr_11_4, zr_11_5, zr_13_0, zr_13_1, zr_17_0, zr_17_1, zr_201_0, zr_201_1, zr_207_5, zr_207_7, zr_207_9, zr_207_10, zr_207_11, zr_207_12, zr_207_13, zr_217_2, zr_217_3, zr_217_4, zr_217_5, zr_217_6, zr_223_2, zr_223_3, zr_223_4, zr_223_5, zr_223_6, zr_223_7, zr_223_8, zr_223_9, zr_223_10, zr_223_12, zr_223_13, zr_235_0, zr_235_2, zR_h, zR_s, zR_t, za_12, zr_12, zff_21, zff_22, zff_25, zfc_21, zfc_22, zfc_25, zfa_23, zfa_24, zfa_26, zfa_27, zfa_28, zfa_29, zfr_21_0, zfr_21_1, zfr_21_2, zfr_21_3, zfr_22_0, zfr_22_1, zfr_25_0, zfr_25_1, zbi_0]
      refine c_symbolCode (sc := K.sc) (sn := K.sn) (sa := K.sa) (by omega) hl x7 x8 x9 hp4 hK.2.1 hs.1 hK.2.2.1 hs.2 (fun i hz e => ?_) (fun hn => ?_)
      · have hi := (zfn_lt hz).1
        have hsc := hK.2.1
        have := next (vc, vn, va_up w k i) I0 J0 i (by omega) (Or.inl (by omega)) (by simp only [zte1, hz, if_pos e]; rfl) rfl c1 c2 c3 zfE.rf
        rw [zct_s (x := i) (by omega)] at this
        exact this
      · simp (disch := first | omega | decide) only [k61_56, k61_58, k61_60, k61_62, k61_65, k61_66, k61_69, k61_71, k61_72, ↓zite, ↓reduceIte, zadd1, ↓zli_0, ↓zli_s, ↓zll_0, ↓zll_s, ↓zla_r, ↓zla_n, ↓zla_x, ↓zla_v, ↓zla_s, ↓zst_0, ↓zst_1, ↓zst_s, ↓zst2_0, ↓zst2_1, ↓zst2_s, zki_i, zki_r, zki_n, zki_x, zki_l, zki_0, zki_v, zwt_0, zwt_i, zwt_l, zwt_r, zwt_n, zwt_x, zwt_v, zrv_0, zrv_s, zca_r, zca_n, zca_i, zca_l, zca_v, true_and, and_true, and_self, true_imp_iff, false_imp_iff, imp_self, not_true_eq_false, not_false_eq_true, forall_const, Nat.reduceAdd, Nat.reduceLeDiff, z01_0, z01_1, zlt0, zge0, zu_s, zu_n, zu_d, zu_c, nI_add, nI_clamp, false_or, or_false, false_and, and_false, zlt, zle, zeq, zeq0, zgt0, zle0, zsub, zm1, zne1, zle_t, zle_f, zlt_t, zlt_f, zen_t, zen_f, Option.toList_none, Option.toList_some, List.nil_append, List.cons_append, Nat.add_sub_cancel, zf_0_0, zf_0_1, zf_0_2, zf_0_3, zf_0_4, zf_0_5, zf_0_6, zf_0_7, zf_0_8, zf_0_9, zf_0_10, zf_0_11, zf_0_12, zf_0_13, zf_0_14, zf_0_15, zf_0_16, zf_0_17, zc_0, za_1, zan_1, zf_2_0, zf_2_1, zf_2_2, zf_2_3, zf_2_4, zf_2_5, zf_2_6, zf_2_7, zf_2_8, zf_2_9, zf_2_10, zf_2_11, zc_2, zf_3_0, zf_3_1, zf_3_2, zf_3_3, zf_3_4, zf_3_5, zf_3_6, zc_3, za_4, zan_4, za_5, za_6, za_7, za_8, za_9, za_10, zf_11_0, zf_11_1, zf_11_2, zf_11_3, zf_11_4, zf_11_5, zc_11, zf_13_0, zf_13_1, zf_13_2, zc_13, za_14, za_15, za_16, zf_17_0, zf_17_1, zf_17_2, zc_17, za_18, za_19, za_20, zf_201_0, zf_201_1, zf_201_2, zc_201, za_202, za_203, za_204, za_205, za_206, zf_207_0, zf_207_1, zf_207_2, zf_207_3, zf_207_4, zf_207_5, zf_207_6, zf_207_7, zf_207_8, zf_207_9, zf_207_10, zf_207_11, zf_207_12, zf_207_13, zc_207, za_208, za_209, za_210, za_211, za_212, za_213, za_214, za_215, za_216, zf_217_0, zf_217_1, zf_217_2, zf_217_3, zf_217_4, zf_217_5, zf_217_6, zc_217, za_218, za_219, za_220, za_221, za_222, zf_223_0, zf_223_1, zf_223_2, zf_223_3, zf_223_4, zf_223_5, zf_223_6, zf_223_7, zf_223_8, zf_223_9, zf_223_10, zf_223_11, zf_223_12, zf_223_13, zf_223_14, zf_223_15, zc_223, za_224, za_225, za_226, za_227, za_228, za_229, za_230, za_231, zan_231, za_232, za_233, za_234, zf_235_0, zf_235_1, zf_235_2, zf_235_3, zc_235, za_236, zan_236, za_237, za_238, zan_238, za_239, zan_239, zr_0_0, zr_0_3, zr_0_4, zr_0_5, zr_0_6, zr_0_7, zr_0_8, zr_0_9, zr_0_10, zr_0_11, zr_0_12, zr_0_13, zr_0_15, zr_2_0, zr_2_1, zr_2_5, zr_2_6, zr_2_7, zr_2_8, zr_2_9, zr_11_0, zr_11_1, zr_11_2, zr_11_4, zr_11_5, zr_13_0, zr_13_1, zr_17_0, zr_17_1, zr_201_0, zr_201_1, zr_207_5, zr_207_7, zr_207_9, zr_207_10, zr_207_11, zr_207_12, zr_207_13, zr_217_2, zr_217_3, zr_217_4, zr_217_5, zr_217_6, zr_223_2, zr_223_3, zr_223_4, zr_223_5, zr_223_6, zr_223_7, zr_223_8, zr_223_9, zr_223_10, zr_223_12, zr_223_13, zr_235_0, zr_235_2, zR_h, zR_s, zR_t, za_12, zr_12, zff_21, zff_22, zff_25, zfc_21, zfc_22, zfc_25, zfa_23, zfa_24, zfa_26, zfa_27, zfa_28, zfa_29, zfr_21_0, zfr_21_1, zfr_21_2, zfr_21_3, zfr_22_0, zfr_22_1, zfr_25_0, zfr_25_1, x6]
        refine hN k _ I0 J0 hkc he ?_ hf
        rw [hiv]
        simp only [zte1]
        rw [if_neg (by decide)]
        cases hz : zfn K.sn (nm k) K.sc with
        | some i => exact if_neg (hn i hz)
        | none => rfl
set_option maxRecDepth 100000 in
set_option maxHeartbeats 4000000 in
theorem c_takeTerms (hK : zKv K) (hc : c ≤ 2000) (hv : ∀ i, i < c → zvn (nm i) ∧ pa i ≤ 4000) (hat : ∀ i, i < c → at_ i ≤ 4000) (hx : zTX nm at_ pa so sd c I J) (hs : zKCs K I J)
    (hN : ∀ k e I' J', k < c → zte K.sc K.sn K.sa nm (fun i => ziv (nm i)) pa k = some e → zte1 K.sc K.sn K.sa (nm k) (ziv (nm k)) (pa k) k e = none → zfE I J I' J' → Q (some (.int (nI (at_ k)))) zE I' J' (zR hp sp tp))
    (hY : ∀ e I' J', zte K.sc K.sn K.sa nm (fun i => ziv (nm i)) pa c = some e → zCE c e I' J' → zfE I J I' J' → Q (some (.int (-1))) zE I' J' (zR hp sp tp)) : cwp X 61 [.ref 11, .ref 2, .ref 201, .ref 204] zE I J (zR hp sp tp) Q := by
  show wp X 61 0 [some (.ref 11), some (.ref 2), some (.ref 201), some (.ref 204), none, none] [] zE I J (zR hp sp tp) Q
  simp (disch := first | omega | decide) only [k61_0, k61_1, k61_2, k61_5, k61_6, ↓zite, ↓reduceIte, zadd1, ↓zli_0, ↓zli_s, ↓zll_0, ↓zll_s, ↓zla_r, ↓zla_n, ↓zla_x, ↓zla_v, ↓zla_s, ↓zst_0, ↓zst_1, ↓zst_s, ↓zst2_0, ↓zst2_1, ↓zst2_s, zki_i, zki_r, zki_n, zki_x, zki_l, zki_0, zki_v, zwt_0, zwt_i, zwt_l, zwt_r, zwt_n, zwt_x, zwt_v, zrv_0, zrv_s, zca_r, zca_n, zca_i, zca_l, zca_v, true_and, and_true, and_self, true_imp_iff, false_imp_iff, imp_self, not_true_eq_false, not_false_eq_true, forall_const, Nat.reduceAdd, Nat.reduceLeDiff, z01_0, z01_1, zlt0, zge0, zu_s, zu_n, zu_d, zu_c, nI_add, nI_clamp, false_or, or_false, false_and, and_false, zlt, zle, zeq, zeq0, zgt0, zle0, zsub, zm1, zne1, zle_t, zle_f, zlt_t, zlt_f, zen_t, zen_f, Option.toList_none, Option.toList_some, List.nil_append, List.cons_append, Nat.add_sub_cancel, zf_0_0, zf_0_1, zf_0_2, zf_0_3, zf_0_4, zf_0_5, zf_0_6, zf_0_7, zf_0_8, zf_0_9, zf_0_10, zf_0_11, zf_0_12, zf_0_13, zf_0_14, zf_0_15, zf_0_16, zf_0_17, zc_0, za_1, zan_1, zf_2_0, zf_2_1, zf_2_2, zf_2_3, zf_2_4, zf_2_5, zf_2_6, zf_2_7, zf_2_8, zf_2_9, zf_2_10, zf_2_11, zc_2, zf_3_0, zf_3_1, zf_3_2, zf_3_3, zf_3_4, zf_3_5, zf_3_6, zc_3, za_4, zan_4, za_5, za_6, za_7, za_8, za_9, za_10, zf_11_0, zf_11_1, zf_11_2, zf_11_3, zf_11_4, zf_11_5, zc_11, zf_13_0, zf_13_1, zf_13_2, zc_13, za_14, za_15, za_16, zf_17_0, zf_17_1, zf_17_2, zc_17, za_18, za_19, za_20, zf_201_0, zf_201_1, zf_201_2, zc_201, za_202, za_203, za_204, za_205, za_206, zf_207_0, zf_207_1, zf_207_2, zf_207_3, zf_207_4, zf_207_5, zf_207_6, zf_207_7, zf_207_8, zf_207_9, zf_207_10, zf_207_11, zf_207_12, zf_207_13, zc_207, za_208, za_209, za_210, za_211, za_212, za_213, za_214, za_215, za_216, zf_217_0, zf_217_1, zf_217_2, zf_217_3, zf_217_4, zf_217_5, zf_217_6, zc_217, za_218, za_219, za_220, za_221, za_222, zf_223_0, zf_223_1, zf_223_2, zf_223_3, zf_223_4, zf_223_5, zf_223_6, zf_223_7, zf_223_8, zf_223_9, zf_223_10, zf_223_11, zf_223_12, zf_223_13, zf_223_14, zf_223_15, zc_223, za_224, za_225, za_226, za_227, za_228, za_229, za_230, za_231, zan_231, za_232, za_233, za_234, zf_235_0, zf_235_1, zf_235_2, zf_235_3, zc_235, za_236, zan_236, za_237, za_238, zan_238, za_239, zan_239, zr_0_0, zr_0_3, zr_0_4, zr_0_5, zr_0_6, zr_0_7, zr_0_8, zr_0_9, zr_0_10, zr_0_11, zr_0_12, zr_0_13, zr_0_15, zr_2_0, zr_2_1, zr_2_5, zr_2_6, zr_2_7, zr_2_8, zr_2_9, zr_11_0, zr_11_1, zr_11_2, zr_11_4, zr_11_5, zr_13_0, zr_13_1, zr_17_0, zr_17_1, zr_201_0, zr_201_1, zr_207_5, zr_207_7, zr_207_9, zr_207_10, zr_207_11, zr_207_12, zr_207_13, zr_217_2, zr_217_3, zr_217_4, zr_217_5, zr_217_6, zr_223_2, zr_223_3, zr_223_4, zr_223_5, zr_223_6, zr_223_7, zr_223_8, zr_223_9, zr_223_10, zr_223_12, zr_223_13, zr_235_0, zr_235_2, zR_h, zR_s, zR_t, za_12, zr_12, zff_21, zff_22, zff_25, zfc_21, zfc_22, zfc_25, zfa_23, zfa_24, zfa_26, zfa_27, zfa_28, zfa_29, zfr_21_0, zfr_21_1, zfr_21_2, zfr_21_3, zfr_22_0, zfr_22_1, zfr_25_0, zfr_25_1]
  have f0 : zfE I J (va_up I 201 (va_up (I 201) 2 (nI 0))) J := ⟨fun o o1 _ _ => zu_n o1, fun _ _ => rfl⟩
  exact l_takeTerms (l5 := none) hK hc hv hat hN hY c 0 (by omega) _ _ J _ rfl (hx.frE f0) (hs.frE f0) ⟨by rw [zu_s, zu_s], fun v hv => absurd hv (Nat.not_lt_zero _), fun i hi => absurd hi (Nat.not_lt_zero _)⟩ f0
end TT
