/-! the rules as forests -/
abbrev tK : Type := Nat × Nat × (Nat → List Nat) × (Nat → Nat) × (Nat → xF) × (Nat → Nat) × (Nat → Nat → Nat)
def tK.rd (K : tK) : Nat := K.1
def tK.sc (K : tK) : Nat := K.2.1
def tK.sn (K : tK) : Nat → List Nat := K.2.2.1
def tK.sa (K : tK) : Nat → Nat := K.2.2.2.1
def tK.G (K : tK) : Nat → xF := K.2.2.2.2.1
def tK.nv (K : tK) : Nat → Nat := K.2.2.2.2.2.1
def tK.fa (K : tK) : Nat → Nat → Nat := K.2.2.2.2.2.2
def tK.w (K : tK) (s p : Nat) : Nat := (xp (K.G s)).getD p 0
def tK.n (K : tK) (s : Nat) : Nat := xz (K.G s)
def tK.a (K : tK) (s i : Nat) : Nat := zar K.sa (K.w s i)
def zKv (K : tK) : Prop := K.rd ≤ 20 ∧ K.sc ≤ 6 ∧ (∀ i, i < K.sc → zvn (K.sn i) ∧ K.sa i ≤ 4000) ∧
  (∀ s, s < 2 * K.rd → xw (zar K.sa) (K.G s) ∧ xl (K.G s) = 1 ∧ K.n s ≤ 40 ∧ ∀ p, p < K.n s → K.w s p < K.sc ∨ (100 ≤ K.w s p ∧ K.w s p < 100 + K.nv (s / 2))) ∧
  (∀ r, r < K.rd → K.w (2 * r) 0 < 100 ∧ K.nv r ≤ 40 ∧ ∀ v, v < K.nv r → 0 < K.fa r v ∧ K.fa r v < K.n (2 * r) ∧ K.w (2 * r) (K.fa r v) = 100 + v ∧ ∀ p, p < K.fa r v → K.w (2 * r) p < 100 + v)
def zKCf (K : tK) (r : Nat) (I : tI) : Prop := I (22 + 9 * r) 2 = nI (K.n (2 * r)) ∧ (∀ p, p < K.n (2 * r) → I (23 + 9 * r) p = zcc (K.w (2 * r) p)) ∧ I (21 + 9 * r) 4 = nI (K.nv r) ∧ ∀ v, v < K.nv r → I (29 + 9 * r) v = nI (K.fa r v)
def zKCo (K : tK) (r : Nat) (I : tI) : Prop := I (25 + 9 * r) 2 = nI (K.n (2 * r + 1)) ∧ ∀ p, p < K.n (2 * r + 1) → I (26 + 9 * r) p = zcc (K.w (2 * r + 1) p)
def zKCe (K : tK) (r : Nat) (I : tI) : Prop := zmz (K.a (2 * r)) (K.n (2 * r)) (I (24 + 9 * r)) ∧ zmz (K.a (2 * r + 1)) (K.n (2 * r + 1)) (I (27 + 9 * r)) ∧ zou zcc (K.n (2 * r + 1)) (I (28 + 9 * r)) (xpo (K.G (2 * r + 1)))
def zKCs (K : tK) (I : tI) (J : tJ) : Prop := I 13 2 = nI K.sc ∧ ∀ i, i < K.sc → J 14 i = zHd (K.sn i) ∧ I 15 i = zTl (K.sn i) ∧ I 16 i = nI (K.sa i)
/-- the class's book holds the rules -/
def zKC (K : tK) (I : tI) (J : tJ) : Prop := I 11 3 = nI K.rd ∧ zKCs K I J ∧ ∀ r, r < K.rd → zKCf K r I ∧ zKCo K r I ∧ zKCe K r I
theorem zS_sh {a : Nat → Nat} {d k p e : Nat} (h : zS a k (p + d) e) : ∃ e', e = e' + d ∧ zS (fun i => a (i + d)) k p e' := by
  obtain ⟨f, h⟩ := h
  induction f generalizing k p with
  | zero =>
    cases k with
    | zero => cases h; exact ⟨p, rfl, zS_0⟩
    | succ k => cases h
  | succ f ih =>
    cases k with
    | zero => rw [zsc_0] at h; cases h; exact ⟨p, rfl, zS_0⟩
    | succ k =>
      have h' : zsc a f (k + a (p + d)) (p + 1 + d) = some e := by rw [show p + 1 + d = p + d + 1 by omega]; exact h
      obtain ⟨e', e1, e2⟩ := ih h'
      exact ⟨e', e1, zS_s e2⟩
noncomputable def xof (ar w : Nat → Nat) (n : Nat) : xF := @dite xF (∃ g, xw ar g ∧ xl g = 1 ∧ xz g = n ∧ xrow w 0 n = xp g) (Classical.propDecidable _) (fun h => Classical.choose h) (fun _ => .leaf ())
theorem xof_s {ar w : Nat → Nat} {n : Nat} (h : zS (fun i => ar (w i)) 1 0 n) : xw ar (xof ar w n) ∧ xl (xof ar w n) = 1 ∧ xz (xof ar w n) = n ∧ xrow w 0 n = xp (xof ar w n) := by
  have hx : ∃ g, xw ar g ∧ xl g = 1 ∧ xz g = n ∧ xrow w 0 n = xp g := by
    obtain ⟨f, h1, h2, h3, h4⟩ := xS_for h
    have : xz f = n := by omega
    rw [this] at h4
    exact ⟨f, h1, h2, this, h4⟩
  rw [xof, dif_pos hx]
  exact Classical.choose_spec hx
noncomputable def zBk (rd : Nat) (B : tB) : tK := match B with
  | (sc, sn, sa, _, _, cnt, cod, nv, fa) => (rd, sc, sn, sa, fun s => xof (zar sa) (cod s) (cnt s), nv, fa)
theorem zBk_ok {iv : Nat → Bool} {pa so : Nat → Nat} {c rd : Nat} {sc vc : Nat} {sn vn : Nat → List Nat} {sa cnt nv : Nat → Nat} {cod fa : Nat → Nat → Nat} (hs : zch so c) (hS : ∀ v, v < 2 * rd → zS pa 1 (znb so v c) (znb so (v + 1) c)) (hpa : ∀ i, i < c → iv i = true → pa i = 0) (hB : zBI iv pa so c (sc, sn, sa, vc, vn, cnt, cod, nv, fa)) :
    zKv (zBk rd (sc, sn, sa, vc, vn, cnt, cod, nv, fa)) ∧ (∀ s, s < 2 * rd → cnt s ≠ 0 ∧ (zBk rd (sc, sn, sa, vc, vn, cnt, cod, nv, fa)).n s = cnt s ∧ ∀ p, p < cnt s → (zBk rd (sc, sn, sa, vc, vn, cnt, cod, nv, fa)).w s p = cod s p) := by
  obtain ⟨b1, b2, b3, b4, b5, b6, b7, b8, b9⟩ := hB
  have hT := zch_T hs c (Nat.le_refl _)
  have hside : ∀ s, s < 2 * rd → ∀ j, j < cnt s → j + znb so s c < c ∧ so (j + znb so s c) = s := by
    intro s hs' j hj
    rw [(b4 s).1, znq] at hj
    have h1 := znb_le (so := so) (v := s + 1) c
    have h2 : j + znb so s c < c := by omega
    have h3 := (hT _ h2 (s + 1)).mpr (by omega)
    have h4 : ¬ so (j + znb so s c) < s := fun q => by have := (hT _ h2 s).mp q; omega
    exact ⟨h2, by omega⟩
  have hcod : ∀ s, s < 2 * rd → ∀ j, j < cnt s → (cod s j < sc ∨ (100 ≤ cod s j ∧ cod s j < 100 + nv (s / 2))) ∧ zar sa (cod s j) = pa (j + znb so s c) := by
    intro s hs' j hj
    obtain ⟨q1, q2⟩ := hside s hs' j hj
    obtain ⟨c1, c2⟩ := b7 _ q1
    rw [q2, Nat.add_sub_cancel] at c1 c2
    cases hiv : iv (j + znb so s c) with
    | false =>
      obtain ⟨d1, d2⟩ := c1 hiv
      exact ⟨Or.inl d1, by rw [zar_s (by omega)]; exact d2⟩
    | true =>
      have := c2 hiv
      exact ⟨Or.inr this, by rw [zar_v this.1, hpa _ q1 hiv]⟩
  have hcnt : ∀ s, s < 2 * rd → zS (fun i => zar sa (cod s i)) 1 0 (cnt s) := by
    intro s hs'
    have h := hS s hs'
    rw [show znb so s c = 0 + znb so s c by omega] at h
    obtain ⟨e', e1, e2⟩ := zS_sh h
    have e3 : e' = cnt s := by rw [(b4 s).1, znq]; omega
    subst e3
    exact zS_loc e2 (fun i _ hi => (hcod s hs' i hi).2)
  have hx : ∀ s, s < 2 * rd → xw (zar sa) (xof (zar sa) (cod s) (cnt s)) ∧ xl (xof (zar sa) (cod s) (cnt s)) = 1 ∧ xz (xof (zar sa) (cod s) (cnt s)) = cnt s ∧ xrow (cod s) 0 (cnt s) = xp (xof (zar sa) (cod s) (cnt s)) := fun s hs' => xof_s (hcnt s hs')
  have hn0 : ∀ s, s < 2 * rd → cnt s ≠ 0 := fun s hs' => by have := zS_le (hcnt s hs'); omega
  have hw : ∀ s, s < 2 * rd → ∀ p, p < cnt s → (xp (xof (zar sa) (cod s) (cnt s))).getD p 0 = cod s p := fun s hs' p hp => by
    rw [← (hx s hs').2.2.2, xrow_get hp, Nat.zero_add]
  have hrd : rd ≤ 20 := by
    rcases Nat.lt_or_ge 20 rd with q | q
    · have := (b4 40).2.2 (hn0 40 (by omega)); omega
    · exact q
  refine ⟨⟨hrd, b1, b2, fun s hs' => ?_, fun r hr => ?_⟩, fun s hs' => ⟨hn0 s hs', (hx s hs').2.2.1, hw s hs'⟩⟩
  · refine ⟨(hx s hs').1, (hx s hs').2.1, ?_, fun p hp => ?_⟩
    · show xz (xof (zar sa) (cod s) (cnt s)) ≤ 40
      rw [(hx s hs').2.2.1]
      exact (b4 s).2.1
    · have hp' : p < cnt s := by rw [← (hx s hs').2.2.1]; exact hp
      show (xp (xof (zar sa) (cod s) (cnt s))).getD p 0 < sc ∨ 100 ≤ (xp (xof (zar sa) (cod s) (cnt s))).getD p 0 ∧ (xp (xof (zar sa) (cod s) (cnt s))).getD p 0 < 100 + nv (s / 2)
      rw [hw s hs' p hp']
      exact (hcod s hs' p hp').1
  · have hr : r < rd := hr
    have h0 := hn0 (2 * r) (by omega)
    have hw' : ∀ p, p < cnt (2 * r) → (zBk rd (sc, sn, sa, vc, vn, cnt, cod, nv, fa)).w (2 * r) p = cod (2 * r) p := hw (2 * r) (by omega)
    refine ⟨by rw [hw' 0 (by omega)]; exact b9 r (by omega), Nat.le_trans (b6 r) (b4 _).2.1, fun v hv => ?_⟩
    obtain ⟨f1, f2, f3, f4⟩ := b8 r v hv
    have hn' : (zBk rd (sc, sn, sa, vc, vn, cnt, cod, nv, fa)).n (2 * r) = cnt (2 * r) := (hx (2 * r) (by omega)).2.2.1
    refine ⟨f1, by rw [hn']; exact f2, ?_, fun p hp => ?_⟩
    · have := hw' (fa r v) f2
      exact this.trans f3
    · have hp1 : p < fa r v := hp
      rw [hw' p (by omega)]
      exact f4 p hp1
/-- a node of a side has its term's end -/
theorem zKv_e {K : tK} (h : zKv K) {s : Nat} (hs : s < 2 * K.rd) : zS (K.a s) 1 0 (K.n s) ∧ ∀ p, p < K.n s → ∃ e, zS (K.a s) 1 p e ∧ e ≤ K.n s := by
  obtain ⟨h1, h2, h3, h4⟩ := h.2.2.2.1 s hs
  have hz : zS (K.a s) (xl (K.G s)) 0 (0 + xz (K.G s)) := by
    refine xfor_S (ar := zar K.sa) (w := K.w s) (K.G s) 0 h1 ?_
    have := xrow_of (l := xp (K.G s))
    rw [xp_len] at this
    exact this
  rw [h2, Nat.zero_add] at hz
  exact ⟨hz, fun p hp => zS_sub hz (Nat.zero_le _) hp⟩
theorem zKv_row {K : tK} {s : Nat} : xrow (K.w s) 0 (K.n s) = xp (K.G s) := by
  have := xrow_of (l := xp (K.G s))
  rw [xp_len] at this
  exact this
section BK
variable {X : tX} {Q : tQ} {hp sp tp : Nat} {I : tI} {J : tJ} {K : tK} {r : Nat}
set_option maxRecDepth 100000 in
set_option maxHeartbeats 4000000 in
theorem c_clear (h : ∀ I', I' = va_up (va_up I 11 (va_up (I 11) 3 (nI 0))) 13 (va_up (I 13) 2 (nI 0)) → Q none zE I' J (zR hp sp tp)) : cwp X 15 [.ref 11] zE I J (zR hp sp tp) Q := by
  show wp X 15 0 [some (.ref 11)] [] zE I J (zR hp sp tp) Q
  simp (disch := first | omega | decide) only [k15_0, k15_1, k15_2, k15_5, k15_6, k15_9, k15_10, k15_13, ↓zite, ↓reduceIte, zadd1, ↓zli_0, ↓zli_s, ↓zll_0, ↓zll_s, ↓zla_r, ↓zla_n, ↓zla_x, ↓zla_v, ↓zla_s, ↓zst_0, ↓zst_1, ↓zst_s, ↓zst2_0, ↓zst2_1, ↓zst2_s, zki_i, zki_r, zki_n, zki_x, zki_l, zki_0, zki_v, zwt_0, zwt_i, zwt_l, zwt_r, zwt_n, zwt_x, zwt_v, zrv_0, zrv_s, zca_r, zca_n, zca_i, zca_l, zca_v, true_and, and_true, and_self, true_imp_iff, false_imp_iff, imp_self, not_true_eq_false, not_false_eq_true, forall_const, Nat.reduceAdd, Nat.reduceLeDiff, z01_0, z01_1, zlt0, zge0, zu_s, zu_n, zu_d, zu_c, nI_add, nI_clamp, false_or, or_false, false_and, and_false, zlt, zle, zeq, zeq0, zgt0, zle0, zsub, zm1, zne1, zle_t, zle_f, zlt_t, zlt_f, zen_t, zen_f, Option.toList_none, Option.toList_some, List.nil_append, List.cons_append, Nat.add_sub_cancel, zf_0_0, zf_0_1, zf_0_2, zf_0_3, zf_0_4, zf_0_5, zf_0_6, zf_0_7, zf_0_8, zf_0_9, zf_0_10, zf_0_11, zf_0_12, zf_0_13, zf_0_14, zf_0_15, zf_0_16, zf_0_17, zc_0, za_1, zan_1, zf_2_0, zf_2_1, zf_2_2, zf_2_3, zf_2_4, zf_2_5, zf_2_6, zf_2_7, zf_2_8, zf_2_9, zf_2_10, zf_2_11, zc_2, zf_3_0, zf_3_1, zf_3_2, zf_3_3, zf_3_4, zf_3_5, zf_3_6, zc_3, za_4, zan_4, za_5, za_6, za_7, za_8, za_9, za_10, zf_11_0, zf_11_1, zf_11_2, zf_11_3, zf_11_4, zf_11_5, zc_11, zf_13_0, zf_13_1, zf_13_2, zc_13, za_14, za_15, za_16, zf_17_0, zf_17_1, zf_17_2, zc_17, za_18, za_19, za_20, zf_201_0, zf_201_1, zf_201_2, zc_201, za_202, za_203, za_204, za_205, za_206, zf_207_0, zf_207_1, zf_207_2, zf_207_3, zf_207_4, zf_207_5, zf_207_6, zf_207_7, zf_207_8, zf_207_9, zf_207_10, zf_207_11, zf_207_12, zf_207_13, zc_207, za_208, za_209, za_210, za_211, za_212, za_213, za_214, za_215, za_216, zf_217_0, zf_217_1, zf_217_2, zf_217_3, zf_217_4, zf_217_5, zf_217_6, zc_217, za_218, za_219, za_220, za_221, za_222, zf_223_0, zf_223_1, zf_223_2, zf_223_3, zf_223_4, zf_223_5, zf_223_6, zf_223_7, zf_223_8, zf_223_9, zf_223_10, zf_223_11, zf_223_12, zf_223_13, zf_223_14, zf_223_15, zc_223, za_224, za_225, za_226, za_227, za_228, za_229, za_230, za_231, zan_231, za_232, za_233, za_234, zf_235_0, zf_235_1, zf_235_2, zf_235_3, zc_235, za_236, zan_236, za_237, za_238, zan_238, za_239, zan_239, zr_0_0, zr_0_3, zr_0_4, zr_0_5, zr_0_6, zr_0_7, zr_0_8, zr_0_9, zr_0_10, zr_0_11, zr_0_12, zr_0_13, zr_0_15, zr_2_0, zr_2_1, zr_2_5, zr_2_6, zr_2_7, zr_2_8, zr_2_9, zr_11_0, zr_11_1, zr_11_2, zr_11_4, zr_11_5, zr_13_0, zr_13_1, zr_17_0, zr_17_1, zr_201_0, zr_201_1, zr_207_5, zr_207_7, zr_207_9, zr_207_10, zr_207_11, zr_207_12, zr_207_13, zr_217_2, zr_217_3, zr_217_4, zr_217_5, zr_217_6, zr_223_2, zr_223_3, zr_223_4, zr_223_5, zr_223_6, zr_223_7, zr_223_8, zr_223_9, zr_223_10, zr_223_12, zr_223_13, zr_235_0, zr_235_2, zR_h, zR_s, zR_t, za_12, zr_12, zff_21, zff_22, zff_25, zfc_21, zfc_22, zfc_25, zfa_23, zfa_24, zfa_26, zfa_27, zfa_28, zfa_29, zfr_21_0, zfr_21_1, zfr_21_2, zfr_21_3, zfr_22_0, zfr_22_1, zfr_25_0, zfr_25_1]
  exact h _ rfl
set_option maxRecDepth 100000 in
set_option maxHeartbeats 4000000 in
theorem c_finish (hK : zKv K) (hr : r < K.rd) (hs : zKCs K I J) (hf : zKCf K r I) (ho : zKCo K r I) (h : ∀ I', (∀ i, i ≠ 24 + 9 * r → i ≠ 27 + 9 * r → i ≠ 28 + 9 * r → i ≠ 20 → I' i = I i) → zKCe K r I' → Q none zE I' J (zR hp sp tp)) : cwp X 41 [.ref 11, .ref (21 + 9 * r)] zE I J (zR hp sp tp) Q := by
  show wp X 41 0 [some (.ref 11), some (.ref (21 + 9 * r))] [] zE I J (zR hp sp tp) Q
  have hrd := hK.1
  have hsc := hK.2.1
  have hr20 : r < 20 := by omega
  obtain ⟨a1, a2, a3, a4⟩ := hK.2.2.2.1 (2 * r) (by omega)
  obtain ⟨b1, b2, b3, b4⟩ := hK.2.2.2.1 (2 * r + 1) (by omega)
  have hnv := (hK.2.2.2.2 r hr).2.1
  rw [show 2 * r / 2 = r by omega] at a4
  rw [show (2 * r + 1) / 2 = r by omega] at b4
  have n1 : 0 < K.n (2 * r) := by have := zS_le (zKv_e hK (s := 2 * r) (by omega)).1; omega
  have n2 : 0 < K.n (2 * r + 1) := by have := zS_le (zKv_e hK (s := 2 * r + 1) (by omega)).1; omega
  have h16 : ∀ i, i < K.sc → I 16 i = nI (K.sa i) ∧ K.sa i ≤ 4000 := fun i hi => ⟨(hs.2 i hi).2.2, (hK.2.2.1 i hi).2⟩
  have wf : ∀ x v, x < K.sc ∨ 100 ≤ x ∧ x < 100 + v → v ≤ 40 → x < 140 ∧ (x < 100 → x < K.sc) := fun x v q hv => ⟨by omega, fun _ => by omega⟩
  simp (disch := first | omega | decide) only [k41_0, k41_1, k41_4, k41_5, k41_8, ↓zite, ↓reduceIte, zadd1, ↓zli_0, ↓zli_s, ↓zll_0, ↓zll_s, ↓zla_r, ↓zla_n, ↓zla_x, ↓zla_v, ↓zla_s, ↓zst_0, ↓zst_1, ↓zst_s, ↓zst2_0, ↓zst2_1, ↓zst2_s, zki_i, zki_r, zki_n, zki_x, zki_l, zki_0, zki_v, zwt_0, zwt_i, zwt_l, zwt_r, zwt_n, zwt_x, zwt_v, zrv_0, zrv_s, zca_r, zca_n, zca_i, zca_l, zca_v, true_and, and_true, and_self, true_imp_iff, false_imp_iff, imp_self, not_true_eq_false, not_false_eq_true, forall_const, Nat.reduceAdd, Nat.reduceLeDiff, z01_0, z01_1, zlt0, zge0, zu_s, zu_n, zu_d, zu_c, nI_add, nI_clamp, false_or, or_false, false_and, and_false, zlt, zle, zeq, zeq0, zgt0, zle0, zsub, zm1, zne1, zle_t, zle_f, zlt_t, zlt_f, zen_t, zen_f, Option.toList_none, Option.toList_some, List.nil_append, List.cons_append, Nat.add_sub_cancel, zf_0_0, zf_0_1, zf_0_2, zf_0_3, zf_0_4, zf_0_5, zf_0_6, zf_0_7, zf_0_8, zf_0_9, zf_0_10, zf_0_11, zf_0_12, zf_0_13, zf_0_14, zf_0_15, zf_0_16, zf_0_17, zc_0, za_1, zan_1, zf_2_0, zf_2_1, zf_2_2, zf_2_3, zf_2_4, zf_2_5, zf_2_6, zf_2_7, zf_2_8, zf_2_9, zf_2_10, zf_2_11, zc_2, zf_3_0, zf_3_1, zf_3_2, zf_3_3, zf_3_4, zf_3_5, zf_3_6, zc_3, za_4, zan_4, za_5, za_6, za_7, za_8, za_9, za_10, zf_11_0, zf_11_1, zf_11_2, zf_11_3, zf_11_4, zf_11_5, zc_11, zf_13_0, zf_13_1, zf_13_2, zc_13, za_14, za_15, za_16, zf_17_0, zf_17_1, zf_17_2, zc_17, za_18, za_19, za_20, zf_201_0, zf_201_1, zf_201_2, zc_201, za_202, za_203, za_204, za_205, za_206, zf_207_0, zf_207_1, zf_207_2, zf_207_3, zf_207_4, zf_207_5, zf_207_6, zf_207_7, zf_207_8, zf_207_9, zf_207_10, zf_207_11, zf_207_12, zf_207_13, zc_207, za_208, za_209, za_210, za_211, za_212, za_213, za_214, za_215, za_216, zf_217_0, zf_217_1, zf_217_2, zf_217_3, zf_217_4, zf_217_5, zf_217_6, zc_217, za_218, za_219, za_220, za_221, za_222, zf_223_0, zf_223_1, zf_223_2, zf_223_3, zf_223_4, zf_223_5, zf_223_6, zf_223_7, zf_223_8, zf_223_9, zf_223_10, zf_223_11, zf_223_12, zf_223_13, zf_223_14, zf_223_15, zc_223, za_224, za_225, za_226, za_227, za_228, za_229, za_230, za_231, zan_231, za_232, za_233, za_234, zf_235_0, zf_235_1, zf_235_2, zf_235_3, zc_235, za_236, zan_236, za_237, za_238, zan_238, za_239, zan_239, zr_0_0, zr_0_3, zr_0_4, zr_0_5, zr_0_6, zr_0_7, zr_0_8, zr_0_9, zr_0_10, zr_0_11, zr_0_12, zr_0_13, zr_0_15, zr_2_0, zr_2_1, zr_2_5, zr_2_6, zr_2_7, zr_2_8, zr_2_9, zr_11_0, zr_11_1, zr_11_2, zr_11_4, zr_11_5, zr_13_0, zr_13_1, zr_17_0, zr_17_1, zr_201_0, zr_201_1, zr_207_5, zr_207_7, zr_207_9, zr_207_10, zr_207_11, zr_207_12, zr_207_13, zr_217_2, zr_217_3, zr_217_4, zr_217_5, zr_217_6, zr_223_2, zr_223_3, zr_223_4, zr_223_5, zr_223_6, zr_223_7, zr_223_8, zr_223_9, zr_223_10, zr_223_12, zr_223_13, zr_235_0, zr_235_2, zR_h, zR_s, zR_t, za_12, zr_12, zff_21, zff_22, zff_25, zfc_21, zfc_22, zfc_25, zfa_23, zfa_24, zfa_26, zfa_27, zfa_28, zfa_29, zfr_21_0, zfr_21_1, zfr_21_2, zfr_21_3, zfr_22_0, zfr_22_1, zfr_25_0, zfr_25_1]
  refine c_measure_22 (w := K.w (2 * r)) (sa := K.sa) hr20 a3 n1 hsc hf.1 (fun p hp => ⟨hf.2.1 p hp, wf _ _ (a4 p hp) hnv⟩) h16 (zKv_e hK (s := 2 * r) (by omega)).2 (fun I1 f1 m1 => ?_)
  simp (disch := first | omega | decide) only [k41_11, k41_12, k41_15, k41_16, k41_19, ↓zite, ↓reduceIte, zadd1, ↓zli_0, ↓zli_s, ↓zll_0, ↓zll_s, ↓zla_r, ↓zla_n, ↓zla_x, ↓zla_v, ↓zla_s, ↓zst_0, ↓zst_1, ↓zst_s, ↓zst2_0, ↓zst2_1, ↓zst2_s, zki_i, zki_r, zki_n, zki_x, zki_l, zki_0, zki_v, zwt_0, zwt_i, zwt_l, zwt_r, zwt_n, zwt_x, zwt_v, zrv_0, zrv_s, zca_r, zca_n, zca_i, zca_l, zca_v, true_and, and_true, and_self, true_imp_iff, false_imp_iff, imp_self, not_true_eq_false, not_false_eq_true, forall_const, Nat.reduceAdd, Nat.reduceLeDiff, z01_0, z01_1, zlt0, zge0, zu_s, zu_n, zu_d, zu_c, nI_add, nI_clamp, false_or, or_false, false_and, and_false, zlt, zle, zeq, zeq0, zgt0, zle0, zsub, zm1, zne1, zle_t, zle_f, zlt_t, zlt_f, zen_t, zen_f, Option.toList_none, Option.toList_some, List.nil_append, List.cons_append, Nat.add_sub_cancel, zf_0_0, zf_0_1, zf_0_2, zf_0_3, zf_0_4, zf_0_5, zf_0_6, zf_0_7, zf_0_8, zf_0_9, zf_0_10, zf_0_11, zf_0_12, zf_0_13, zf_0_14, zf_0_15, zf_0_16, zf_0_17, zc_0, za_1, zan_1, zf_2_0, zf_2_1, zf_2_2, zf_2_3, zf_2_4, zf_2_5, zf_2_6, zf_2_7, zf_2_8, zf_2_9, zf_2_10, zf_2_11, zc_2, zf_3_0, zf_3_1, zf_3_2, zf_3_3, zf_3_4, zf_3_5, zf_3_6, zc_3, za_4, zan_4, za_5, za_6, za_7, za_8, za_9, za_10, zf_11_0, zf_11_1, zf_11_2, zf_11_3, zf_11_4, zf_11_5, zc_11, zf_13_0, zf_13_1, zf_13_2, zc_13, za_14, za_15, za_16, zf_17_0, zf_17_1, zf_17_2, zc_17, za_18, za_19, za_20, zf_201_0, zf_201_1, zf_201_2, zc_201, za_202, za_203, za_204, za_205, za_206, zf_207_0, zf_207_1, zf_207_2, zf_207_3, zf_207_4, zf_207_5, zf_207_6, zf_207_7, zf_207_8, zf_207_9, zf_207_10, zf_207_11, zf_207_12, zf_207_13, zc_207, za_208, za_209, za_210, za_211, za_212, za_213, za_214, za_215, za_216, zf_217_0, zf_217_1, zf_217_2, zf_217_3, zf_217_4, zf_217_5, zf_217_6, zc_217, za_218, za_219, za_220, za_221, za_222, zf_223_0, zf_223_1, zf_223_2, zf_223_3, zf_223_4, zf_223_5, zf_223_6, zf_223_7, zf_223_8, zf_223_9, zf_223_10, zf_223_11, zf_223_12, zf_223_13, zf_223_14, zf_223_15, zc_223, za_224, za_225, za_226, za_227, za_228, za_229, za_230, za_231, zan_231, za_232, za_233, za_234, zf_235_0, zf_235_1, zf_235_2, zf_235_3, zc_235, za_236, zan_236, za_237, za_238, zan_238, za_239, zan_239, zr_0_0, zr_0_3, zr_0_4, zr_0_5, zr_0_6, zr_0_7, zr_0_8, zr_0_9, zr_0_10, zr_0_11, zr_0_12, zr_0_13, zr_0_15, zr_2_0, zr_2_1, zr_2_5, zr_2_6, zr_2_7, zr_2_8, zr_2_9, zr_11_0, zr_11_1, zr_11_2, zr_11_4, zr_11_5, zr_13_0, zr_13_1, zr_17_0, zr_17_1, zr_201_0, zr_201_1, zr_207_5, zr_207_7, zr_207_9, zr_207_10, zr_207_11, zr_207_12, zr_207_13, zr_217_2, zr_217_3, zr_217_4, zr_217_5, zr_217_6, zr_223_2, zr_223_3, zr_223_4, zr_223_5, zr_223_6, zr_223_7, zr_223_8, zr_223_9, zr_223_10, zr_223_12, zr_223_13, zr_235_0, zr_235_2, zR_h, zR_s, zR_t, za_12, zr_12, zff_21, zff_22, zff_25, zfc_21, zfc_22, zfc_25, zfa_23, zfa_24, zfa_26, zfa_27, zfa_28, zfa_29, zfr_21_0, zfr_21_1, zfr_21_2, zfr_21_3, zfr_22_0, zfr_22_1, zfr_25_0, zfr_25_1]
  refine c_measure_25 (w := K.w (2 * r + 1)) (sa := K.sa) hr20 b3 n2 hsc (by rw [f1 _ (by omega)]; exact ho.1) (fun p hp => ⟨by rw [f1 _ (by omega)]; exact ho.2 p hp, wf _ _ (b4 p hp) hnv⟩) (fun i hi => by rw [f1 _ (by omega)]; exact h16 i hi) (zKv_e hK (s := 2 * r + 1) (by omega)).2 (fun I2 f2 m2 => ?_)
  have g1 : I2 (25 + 9 * r) 2 = nI (K.n (2 * r + 1)) := by rw [f2 _ (by omega), f1 _ (by omega)]; exact ho.1
  simp (disch := first | omega | decide) only [k41_22, k41_23, k41_26, k41_27, k41_30, k41_33, k41_34, k41_35, k41_38, k41_41, k41_42, k41_45, k41_46, k41_49, ↓zite, ↓reduceIte, zadd1, ↓zli_0, ↓zli_s, ↓zll_0, ↓zll_s, ↓zla_r, ↓zla_n, ↓zla_x, ↓zla_v, ↓zla_s, ↓zst_0, ↓zst_1, ↓zst_s, ↓zst2_0, ↓zst2_1, ↓zst2_s, zki_i, zki_r, zki_n, zki_x, zki_l, zki_0, zki_v, zwt_0, zwt_i, zwt_l, zwt_r, zwt_n, zwt_x, zwt_v, zrv_0, zrv_s, zca_r, zca_n, zca_i, zca_l, zca_v, true_and, and_true, and_self, true_imp_iff, false_imp_iff, imp_self, not_true_eq_false, not_false_eq_true, forall_const, Nat.reduceAdd, Nat.reduceLeDiff, z01_0, z01_1, zlt0, zge0, zu_s, zu_n, zu_d, zu_c, nI_add, nI_clamp, false_or, or_false, false_and, and_false, zlt, zle, zeq, zeq0, zgt0, zle0, zsub, zm1, zne1, zle_t, zle_f, zlt_t, zlt_f, zen_t, zen_f, Option.toList_none, Option.toList_some, List.nil_append, List.cons_append, Nat.add_sub_cancel, zf_0_0, zf_0_1, zf_0_2, zf_0_3, zf_0_4, zf_0_5, zf_0_6, zf_0_7, zf_0_8, zf_0_9, zf_0_10, zf_0_11, zf_0_12, zf_0_13, zf_0_14, zf_0_15, zf_0_16, zf_0_17, zc_0, za_1, zan_1, zf_2_0, zf_2_1, zf_2_2, zf_2_3, zf_2_4, zf_2_5, zf_2_6, zf_2_7, zf_2_8, zf_2_9, zf_2_10, zf_2_11, zc_2, zf_3_0, zf_3_1, zf_3_2, zf_3_3, zf_3_4, zf_3_5, zf_3_6, zc_3, za_4, zan_4, za_5, za_6, za_7, za_8, za_9, za_10, zf_11_0, zf_11_1, zf_11_2, zf_11_3, zf_11_4, zf_11_5, zc_11, zf_13_0, zf_13_1, zf_13_2, zc_13, za_14, za_15, za_16, zf_17_0, zf_17_1, zf_17_2, zc_17, za_18, za_19, za_20, zf_201_0, zf_201_1, zf_201_2, zc_201, za_202, za_203, za_204, za_205, za_206, zf_207_0, zf_207_1, zf_207_2, zf_207_3, zf_207_4, zf_207_5, zf_207_6, zf_207_7, zf_207_8, zf_207_9, zf_207_10, zf_207_11, zf_207_12, zf_207_13, zc_207, za_208, za_209, za_210, za_211, za_212, za_213, za_214, za_215, za_216, zf_217_0, zf_217_1, zf_217_2, zf_217_3, zf_217_4, zf_217_5, zf_217_6, zc_217, za_218, za_219, za_220, za_221, za_222, zf_223_0, zf_223_1, zf_223_2, zf_223_3, zf_223_4, zf_223_5, zf_223_6, zf_223_7, zf_223_8, zf_223_9, zf_223_10, zf_223_11, zf_223_12, zf_223_13, zf_223_14, zf_223_15, zc_223, za_224, za_225, za_226, za_227, za_228, za_229, za_230, za_231, zan_231, za_232, za_233, za_234, zf_235_0, zf_235_1, zf_235_2, zf_235_3, zc_235, za_236, zan_236, za_237, za_238, zan_238, za_239, zan_239, zr_0_0, zr_0_3, zr_0_4, zr_0_5, zr_0_6, zr_0_7, zr_0_8, zr_0_9, zr_0_10, zr_0_11, zr_0_12, zr_0_13, zr_0_15, zr_2_0, zr_2_1, zr_2_5, zr_2_6, zr_2_7, zr_2_8, zr_2_9, zr_11_0, zr_11_1, zr_11_2, zr_11_4, zr_11_5, zr_13_0, zr_13_1, zr_17_0, zr_17_1, zr_201_0, zr_201_1, zr_207_5, zr_207_7, zr_207_9, zr_207_10, zr_207_11, zr_207_12, zr_207_13, zr_217_2, zr_217_3, zr_217_4, zr_217_5, zr_217_6, zr_223_2, zr_223_3, zr_223_4, zr_223_5, zr_223_6, zr_223_7, zr_223_8, zr_223_9, zr_223_10, zr_223_12, zr_223_13, zr_235_0, zr_235_2, zR_h, zR_s, zR_t, za_12, zr_12, zff_21, zff_22, zff_25, zfc_21, zfc_22, zfc_25, zfa_23, zfa_24, zfa_26, zfa_27, zfa_28, zfa_29, zfr_21_0, zfr_21_1, zfr_21_2, zfr_21_3, zfr_22_0, zfr_22_1, zfr_25_0, zfr_25_1, g1]
  refine c_turn_a (w := K.w (2 * r + 1)) (sa := K.sa) (cc := zcc) (g := K.G (2 * r + 1)) (sc := K.sc) hr20 b3 (by omega) hsc (fun x hx => zcc_s0 hx) (fun i hi => ?_) (fun i hi => ?_) b1 zKv_row (fun I3 f3 m3 => ?_)
  · rw [f2 _ (by omega), f1 _ (by omega), Nat.zero_add]
    refine ⟨ho.2 i hi, ?_⟩
    rcases b4 i hi with q | q
    · exact Or.inl ⟨by omega, q⟩
    · exact Or.inr ⟨q.1, zcc_n q.1 (by omega), zcc_n' q.1 (by omega)⟩
  · rw [f2 _ (by omega), f1 _ (by omega)]; exact h16 i hi
  · simp (disch := first | omega | decide) only [k41_52, ↓zite, ↓reduceIte, zadd1, ↓zli_0, ↓zli_s, ↓zll_0, ↓zll_s, ↓zla_r, ↓zla_n, ↓zla_x, ↓zla_v, ↓zla_s, ↓zst_0, ↓zst_1, ↓zst_s, ↓zst2_0, ↓zst2_1, ↓zst2_s, zki_i, zki_r, zki_n, zki_x, zki_l, zki_0, zki_v, zwt_0, zwt_i, zwt_l, zwt_r, zwt_n, zwt_x, zwt_v, zrv_0, zrv_s, zca_r, zca_n, zca_i, zca_l, zca_v, true_and, and_true, and_self, true_imp_iff, false_imp_iff, imp_self, not_true_eq_false, not_false_eq_true, forall_const, Nat.reduceAdd, Nat.reduceLeDiff, z01_0, z01_1, zlt0, zge0, zu_s, zu_n, zu_d, zu_c, nI_add, nI_clamp, false_or, or_false, false_and, and_false, zlt, zle, zeq, zeq0, zgt0, zle0, zsub, zm1, zne1, zle_t, zle_f, zlt_t, zlt_f, zen_t, zen_f, Option.toList_none, Option.toList_some, List.nil_append, List.cons_append, Nat.add_sub_cancel, zf_0_0, zf_0_1, zf_0_2, zf_0_3, zf_0_4, zf_0_5, zf_0_6, zf_0_7, zf_0_8, zf_0_9, zf_0_10, zf_0_11, zf_0_12, zf_0_13, zf_0_14, zf_0_15, zf_0_16, zf_0_17, zc_0, za_1, zan_1, zf_2_0, zf_2_1, zf_2_2, zf_2_3, zf_2_4, zf_2_5, zf_2_6, zf_2_7, zf_2_8, zf_2_9, zf_2_10, zf_2_11, zc_2, zf_3_0, zf_3_1, zf_3_2, zf_3_3, zf_3_4, zf_3_5, zf_3_6, zc_3, za_4, zan_4, za_5, za_6, za_7, za_8, za_9, za_10, zf_11_0, zf_11_1, zf_11_2, zf_11_3, zf_11_4, zf_11_5, zc_11, zf_13_0, zf_13_1, zf_13_2, zc_13, za_14, za_15, za_16, zf_17_0, zf_17_1, zf_17_2, zc_17, za_18, za_19, za_20, zf_201_0, zf_201_1, zf_201_2, zc_201, za_202, za_203, za_204, za_205, za_206, zf_207_0, zf_207_1, zf_207_2, zf_207_3, zf_207_4, zf_207_5, zf_207_6, zf_207_7, zf_207_8, zf_207_9, zf_207_10, zf_207_11, zf_207_12, zf_207_13, zc_207, za_208, za_209, za_210, za_211, za_212, za_213, za_214, za_215, za_216, zf_217_0, zf_217_1, zf_217_2, zf_217_3, zf_217_4, zf_217_5, zf_217_6, zc_217, za_218, za_219, za_220, za_221, za_222, zf_223_0, zf_223_1, zf_223_2, zf_223_3, zf_223_4, zf_223_5, zf_223_6, zf_223_7, zf_223_8, zf_223_9, zf_223_10, zf_223_11, zf_223_12, zf_223_13, zf_223_14, zf_223_15, zc_223, za_224, za_225, za_226, za_227, za_228, za_229, za_230, za_231, zan_231, za_232, za_233, za_234, zf_235_0, zf_235_1, zf_235_2, zf_235_3, zc_235, za_236, zan_236, za_237, za_238, zan_238, za_239, zan_239, zr_0_0, zr_0_3, zr_0_4, zr_0_5, zr_0_6, zr_0_7, zr_0_8, zr_0_9, zr_0_10, zr_0_11, zr_0_12, zr_0_13, zr_0_15, zr_2_0, zr_2_1, zr_2_5, zr_2_6, zr_2_7, zr_2_8, zr_2_9, zr_11_0, zr_11_1, zr_11_2, zr_11_4, zr_11_5, zr_13_0, zr_13_1, zr_17_0, zr_17_1, zr_201_0, zr_201_1, zr_207_5, zr_207_7, zr_207_9, zr_207_10, zr_207_11, zr_207_12, zr_207_13, zr_217_2, zr_217_3, zr_217_4, zr_217_5, zr_217_6, zr_223_2, zr_223_3, zr_223_4, zr_223_5, zr_223_6, zr_223_7, zr_223_8, zr_223_9, zr_223_10, zr_223_12, zr_223_13, zr_235_0, zr_235_2, zR_h, zR_s, zR_t, za_12, zr_12, zff_21, zff_22, zff_25, zfc_21, zfc_22, zfc_25, zfa_23, zfa_24, zfa_26, zfa_27, zfa_28, zfa_29, zfr_21_0, zfr_21_1, zfr_21_2, zfr_21_3, zfr_22_0, zfr_22_1, zfr_25_0, zfr_25_1]
    refine h I3 (fun i q1 q2 q3 q4 => by rw [f3 i (by omega) (by omega), f2 i (by omega), f1 i (by omega)]) ⟨?_, ?_, m3⟩
    · rw [f3 _ (by omega) (by omega), f2 _ (by omega)]; exact m1
    · rw [f3 _ (by omega) (by omega)]; exact m2
end BK
