/-! the model goes through the nodes -/
/-- what is read, as nodes -/
def zTF (b : Nat → Nat) (n T : Nat) (nt pa so : Nat → Nat) (c rd : Nat) : Prop := n ≤ 4000 ∧ T ≤ n ∧ (∀ j, j < n → b j < 256) ∧ zch so c ∧ c ≤ 2000 ∧ (∀ i, i < c → so i < 2 * rd) ∧ (∀ v, v < 2 * rd → zS pa 1 (znb so v c) (znb so (v + 1) c)) ∧ ∀ i, i < c → nt i ≤ T ∧ ((zt b n (nt i)).1 = 1 ∨ (zt b n (nt i)).1 = 2) ∧ ((zt b n (nt i)).1 = 2 ↔ ziv (znm b n (nt i)) = true) ∧ zvn (znm b n (nt i)) ∧ pa i ≤ 4000 ∧ ((zt b n (nt i)).1 = 2 → pa i = 0)
def zTM (b : Nat → Nat) (n T : Nat) (nt pa so : Nat → Nat) (c rd : Nat) (I : tI) : Prop := (∀ i, i < n → I 241 i = nI (b i)) ∧ zTK b n T I ∧ (∀ i, i < c → I 245 i = nI (nt i) ∧ I 246 i = nI (pa i)) ∧ zFO so c rd I ∧ I 248 rd = nI c ∧ I 240 15 = nI rd
theorem zTM.fr {b : Nat → Nat} {n T : Nat} {nt pa so : Nat → Nat} {c rd : Nat} {I I' : tI} (h : zTM b n T nt pa so c rd I) (f : zfW I I') : zTM b n T nt pa so c rd I' := by
  obtain ⟨h1, h2, h3, h4, h5, h6⟩ := h
  have e1 := f.1 241 (by decide) (by decide) (by decide) (by decide) (by decide) (by decide) (by decide) (by decide)
  have e2 := f.1 242 (by decide) (by decide) (by decide) (by decide) (by decide) (by decide) (by decide) (by decide)
  have e3 := f.1 243 (by decide) (by decide) (by decide) (by decide) (by decide) (by decide) (by decide) (by decide)
  have e4 := f.1 244 (by decide) (by decide) (by decide) (by decide) (by decide) (by decide) (by decide) (by decide)
  have e5 := f.1 245 (by decide) (by decide) (by decide) (by decide) (by decide) (by decide) (by decide) (by decide)
  have e6 := f.1 246 (by decide) (by decide) (by decide) (by decide) (by decide) (by decide) (by decide) (by decide)
  have e7 := f.1 248 (by decide) (by decide) (by decide) (by decide) (by decide) (by decide) (by decide) (by decide)
  have e8 := f.1 249 (by decide) (by decide) (by decide) (by decide) (by decide) (by decide) (by decide) (by decide)
  have e9 := f.2 15 (by decide) (by decide)
  refine ⟨fun i hi => by rw [e1]; exact h1 i hi, fun i hi => by rw [e2, e3, e4]; exact h2 i hi, fun i hi => by rw [e5, e6]; exact h3 i hi, fun r hr => by rw [e7, e8]; exact h4 r hr, by rw [e7]; exact h5, by rw [e9]; exact h6⟩
/-- the same without the rule's variables -/
def zMB0 (b : Nat → Nat) (n T : Nat) (B : tB) (I : tI) : Prop := match B with
  | (sc, sn, sa, _, _, cnt, cod, _, _) =>
    I 240 16 = nI sc ∧ zMN b n T 250 sn sc I ∧ (∀ i, i < sc → I 251 i = nI (sa i)) ∧
    (∀ r, r < 20 → (cnt (2 * r) ≠ 0 → I 255 r = nI (cnt (2 * r))) ∧ ∀ p, p < cnt (2 * r) → I 254 (40 * r + p) = nI (cod (2 * r) p)) ∧
    (∀ r, r < 20 → (cnt (2 * r + 1) ≠ 0 → I 257 r = nI (cnt (2 * r + 1))) ∧ ∀ p, p < cnt (2 * r + 1) → I 256 (40 * r + p) = nI (cod (2 * r + 1) p))
theorem zMB.to0 {b : Nat → Nat} {n T : Nat} {B : tB} {I : tI} (h : zMB b n T B I) : zMB0 b n T B I := by
  obtain ⟨sc, sn, sa, vc, vn, cnt, cod, nv, fa⟩ := B
  exact ⟨h.1, h.2.1, h.2.2.1, h.2.2.2.2.2⟩
def zBv (v : Nat) (B : tB) : tB := match B with
  | (sc, sn, sa, _, vn, cnt, cod, nv, fa) => (sc, sn, sa, v, vn, cnt, cod, nv, fa)
def zBc (B : tB) : Nat := B.2.2.2.1
section MN
variable {X : tX} {Q : tQ} {hp sp tp : Nat} {I : tI} {J : tJ} {b : Nat → Nat} {n T c rd : Nat} {nt pa so : Nat → Nat}
theorem znb_cut {k v : Nat} (hs : zch so c) (hk : k < c) (hv : v ≤ so k) : znb so v c = znb so v k := znb_ext c (by omega) (fun _ _ => rfl) (fun i h1 h2 => by have := zch_mono hs h1 h2; omega)
set_option maxRecDepth 100000 in
set_option maxHeartbeats 4000000 in
theorem l_wrong_in {r : Nat} (hF : zTF b n T nt pa so c rd) (hM : zTM b n T nt pa so c rd I) (hr : r < rd)
    (hN : ∀ k B I', k < c → zbd (fun i => znm b n (nt i)) (fun i => ziv (znm b n (nt i))) pa so k = some B → zbt (znm b n (nt k)) (ziv (znm b n (nt k))) (pa k) (so k) B = none → zfW I I' → Q (some (.int (nI k))) zE I' J (zR hp sp tp))
    (hC : ∀ B I' l3, zbd (fun i => znm b n (nt i)) (fun i => ziv (znm b n (nt i))) pa so (znb so (2 * r + 2) c) = some B → zMB b n T B I' → zfW I I' → wp X 124 96 [some (.ref 240), some (.int (nI r)), some (.int (nI (znb so (2 * r + 2) c))), l3] [] zE I' J (zR hp sp tp) Q) : ∀ g k, k + g = znb so (2 * r + 2) c → znb so (2 * r) c ≤ k → ∀ B I0 l3, zbd (fun i => znm b n (nt i)) (fun i => ziv (znm b n (nt i))) pa so k = some B → zMB b n T (zBv (if k = znb so (2 * r) c then 0 else zBc B) B) I0 → zfW I I0 → wp X 124 27 [some (.ref 240), some (.int (nI r)), some (.int (nI k)), l3] [] zE I0 J (zR hp sp tp) Q := by
  obtain ⟨hn, hTn, hb1, hs, hc, hso, hS, hnd⟩ := id hF
  have z0 := hS (2 * r) (by omega)
  have z1 : zS pa 1 (znb so (2 * r + 1) c) (znb so (2 * r + 2) c) := hS (2 * r + 1) (by omega)
  have l0 := zS_le z0
  have l1 := zS_le z1
  have lc := znb_le (so := so) (v := 2 * r + 2) c
  have hv : ∀ k, k < c → zvn (znm b n (nt k)) ∧ pa k ≤ 4000 := fun k hk => ⟨(hnd k hk).2.2.2.1, (hnd k hk).2.2.2.2.1⟩
  have hT := zch_T hs c (Nat.le_refl _)
  have hrd4 : rd ≤ 4000 := by
    rcases Nat.lt_or_ge 4000 rd with q | q
    · exfalso
      have hge : ∀ v, v ≤ 2 * rd → v ≤ znb so v c := by
        intro v
        induction v with
        | zero => intro _; omega
        | succ v ih => intro hv; have := ih (by omega); have := zS_le (hS v (by omega)); omega
      have := hge (2 * rd) (Nat.le_refl _)
      have := znb_le (so := so) (v := 2 * rd) c
      omega
    · exact q
  intro g
  induction g with
  | zero =>
    intro k hk hk2 B I0 l3 hz hm hf
    have ek : k = znb so (2 * r + 2) c := by omega
    have hM0 := hM.fr hf
    have e1 : I0 248 (r + 1) = nI (znb so (2 * r + 2) c) := by
      by_cases q : r + 1 < rd
      · exact (hM0.2.2.2.1 (r + 1) q).1
      · have : r + 1 = rd := by omega
        rw [this, hM0.2.2.2.2.1]
        have : znb so (2 * r + 2) c = c := znb_all c (fun i hi => by have := hso i hi; omega)
        rw [this]
    rw [if_neg (by omega)] at hm
    have hr3 : rd ≤ 1000 := by
      have hge : ∀ v, v ≤ 2 * rd → v ≤ znb so v c := by
        intro v
        induction v with
        | zero => intro _; omega
        | succ v ih => intro hv; have := ih (by omega); have := zS_le (hS v (by omega)); omega
      have := hge (2 * rd) (Nat.le_refl _)
      have := znb_le (so := so) (v := 2 * rd) c
      omega
    subst ek
    rw [k124_27]
    simp (disch := first | omega | decide) only [k124_28, k124_29, k124_32, k124_33, k124_34, k124_35, k124_36, k124_39, k124_40, k124_41, k124_44, k124_45, k124_46, k124_49, k124_50, k124_53, k124_54, k124_55, k124_56, k124_57, k124_58, k124_59, k124_60, k124_63, k124_64, k124_65, k124_68, k124_69, k124_70, k124_71, k124_74, k124_75, k124_76, k124_79, k124_80, k124_81, k124_82, k124_85, k124_88, k124_89, k124_90, k124_93, ↓zite, ↓reduceIte, zadd1, ↓zli_0, ↓zli_s, ↓zll_0, ↓zll_s, ↓zla_r, ↓zla_n, ↓zla_x, ↓zla_v, ↓zla_s, ↓zst_0, ↓zst_1, ↓zst_s, ↓zst2_0, ↓zst2_1, ↓zst2_s, zki_i, zki_r, zki_n, zki_x, zki_l, zki_0, zki_v, zwt_0, zwt_i, zwt_l, zwt_r, zwt_n, zwt_x, zwt_v, zrv_0, zrv_s, zca_r, zca_n, zca_i, zca_l, zca_v, true_and, and_true, and_self, true_imp_iff, false_imp_iff, imp_self, not_true_eq_false, not_false_eq_true, forall_const, Nat.reduceAdd, Nat.reduceLeDiff, z01_0, z01_1, zlt0, zge0, zu_s, zu_n, zu_d, zu_c, nI_add, nI_clamp, false_or, or_false, false_and, and_false, zlt, zle, zeq, zeq0, zgt0, zle0, zsub, zm1, zne1, zle_t, zle_f, zlt_t, zlt_f, zen_t, zen_f, Option.toList_none, Option.toList_some, List.nil_append, List.cons_append, Nat.add_sub_cancel, zf_240_0, zf_240_1, zf_240_2, zf_240_3, zf_240_4, zf_240_5, zf_240_6, zf_240_7, zf_240_8, zf_240_9, zf_240_10, zf_240_11, zf_240_12, zf_240_13, zf_240_14, zf_240_15, zf_240_16, zf_240_17, zf_240_18, zf_240_19, zf_240_20, zf_240_21, zf_240_22, zf_240_23, zf_240_24, zf_240_25, zf_240_26, zf_240_27, zf_240_28, zf_240_29, zf_240_30, zf_240_31, zf_240_32, zf_240_33, zf_240_34, zf_240_35, zf_240_36, zf_240_37, zf_240_38, zf_240_39, zf_240_40, zf_240_41, zf_240_42, zf_240_43, zf_240_44, zf_240_45, zf_240_46, zf_240_47, zf_240_48, zf_240_49, zf_240_50, zf_240_51, zf_240_52, zf_240_53, zf_240_54, zf_240_55, zf_240_56, zf_240_57, zf_240_58, zf_240_59, zf_240_60, zf_240_61, zf_240_62, zf_240_63, zf_240_64, zf_240_65, zf_240_66, zf_240_67, zf_240_68, zf_240_69, zf_240_70, zf_240_71, zf_240_72, zc_240, za_241, za_242, za_243, za_244, za_245, za_246, za_247, za_248, za_249, za_250, za_251, za_252, za_253, za_254, za_255, za_256, za_257, za_258, za_259, za_260, za_261, zan_261, za_262, zan_262, za_263, za_264, za_265, za_266, za_267, za_268, za_269, za_270, za_271, za_272, za_273, za_274, za_275, za_276, za_277, za_278, zan_278, za_279, za_280, za_281, za_282, za_283, za_284, za_285, za_286, za_287, zr_240_0, zr_240_3, zr_240_4, zr_240_5, zr_240_9, zr_240_10, zr_240_12, zr_240_13, zr_240_14, zr_240_17, zr_240_18, zr_240_19, zr_240_20, zr_240_22, zr_240_23, zr_240_24, zr_240_25, zr_240_26, zr_240_30, zr_240_31, zr_240_32, zr_240_33, zr_240_34, zr_240_35, zr_240_36, zr_240_37, zr_240_38, zr_240_41, zr_240_42, zr_240_46, zr_240_48, zr_240_49, zr_240_50, zr_240_51, zr_240_53, zr_240_54, zr_240_55, zr_240_56, zr_240_57, zr_240_61, zr_240_62, zr_240_63, zr_240_64, zr_240_66, zr_240_68, zr_240_70, zr_240_72, e1]
    obtain ⟨sc, sn, sa, vc, vn, cnt, cod, nv, fa⟩ := B
    exact hC _ I0 _ hz hm hf
  | succ g ih =>
    intro k hk hk2 B I0 l3 hz hm hf
    have hkc : k < c := by omega
    have hM0 := hM.fr hf
    obtain ⟨m1, m2, m3, m4, m5, m6⟩ := hM0
    obtain ⟨q48, q49⟩ := m4 r hr
    obtain ⟨n1, n2, n3, n4, n5, n6⟩ := hnd k hkc
    obtain ⟨r45, r46⟩ := m3 k hkc
    have hB := zBI_all (nm := fun i => znm b n (nt i)) (iv := fun i => ziv (znm b n (nt i))) hs hv k B (by omega) hz
    have hcur := znq_cur hs hkc
    have hsk1 : 2 * r ≤ so k := by
      have : ¬ so k < 2 * r := fun q => by have := (hT k hkc (2 * r)).mp q; omega
      omega
    have hsk2 : so k < 2 * r + 2 := (hT k hkc (2 * r + 2)).mpr (by omega)
    have hcut := znb_cut hs hkc (Nat.le_refl (so k))
    have e1 : I0 248 (r + 1) = nI (znb so (2 * r + 2) c) := by
      by_cases q : r + 1 < rd
      · exact (m4 (r + 1) q).1
      · have : r + 1 = rd := by omega
        rw [this, m5]
        have : znb so (2 * r + 2) c = c := znb_all c (fun i hi => by have := hso i hi; omega)
        rw [this]
    have hvc := zBI_vc hs hkc hB
    obtain ⟨sc, sn, sa, vc, vn, cnt, cod, nv, fa⟩ := B
    obtain ⟨hv1, hv2, hv3, hv4⟩ := hvc
    obtain ⟨b1, b2, b3, b4, b5, b6, b7, b8, b9⟩ := id hB
    have hcs : cnt (so k) = k - znb so (so k) c := by rw [(b4 (so k)).1, hcur, hcut]
    have hr3 : rd ≤ 1000 := by
      have hge : ∀ v, v ≤ 2 * rd → v ≤ znb so v c := by
        intro v
        induction v with
        | zero => intro _; omega
        | succ v ih => intro hv; have := ih (by omega); have := zS_le (hS v (by omega)); omega
      have := hge (2 * rd) (Nat.le_refl _)
      have := znb_le (so := so) (v := 2 * rd) c
      omega
    have hr20 : r ≤ 20 := by
      rcases Nat.lt_or_ge 20 r with q | q
      · exfalso
        have z40 : znb so 40 c + 1 ≤ znb so 41 c := zS_le (hS 40 (by omega))
        have q40 : znq so 40 k = znb so 41 k - znb so 40 k := rfl
        have hz40 : znb so 41 c ≤ znb so (2 * r) c := znb_mono (by omega) c
        have c40 : znb so 40 c = znb so 40 k := znb_cut hs hkc (by omega)
        have c41 : znb so 41 c = znb so 41 k := znb_cut hs hkc (by omega)
        have := (b4 40).2.2 (by rw [(b4 40).1, q40]; omega)
        omega
      · exact q
    have hY' : ∀ B' I' l3, zbt (znm b n (nt k)) (ziv (znm b n (nt k))) (pa k) (so k) (sc, sn, sa, vc, vn, cnt, cod, nv, fa) = some B' → zMB b n T B' I' → zfW I0 I' → wp X 124 90 [some (.ref 240), some (.int (nI r)), some (.int (nI k)), l3] [] zE I' J (zR hp sp tp) Q := by
      intro B' I' l3 q1 q2 q3
      simp (disch := first | omega | decide) only [k124_90, k124_93, ↓zite, ↓reduceIte, zadd1, ↓zli_0, ↓zli_s, ↓zll_0, ↓zll_s, ↓zla_r, ↓zla_n, ↓zla_x, ↓zla_v, ↓zla_s, ↓zst_0, ↓zst_1, ↓zst_s, ↓zst2_0, ↓zst2_1, ↓zst2_s, zki_i, zki_r, zki_n, zki_x, zki_l, zki_0, zki_v, zwt_0, zwt_i, zwt_l, zwt_r, zwt_n, zwt_x, zwt_v, zrv_0, zrv_s, zca_r, zca_n, zca_i, zca_l, zca_v, true_and, and_true, and_self, true_imp_iff, false_imp_iff, imp_self, not_true_eq_false, not_false_eq_true, forall_const, Nat.reduceAdd, Nat.reduceLeDiff, z01_0, z01_1, zlt0, zge0, zu_s, zu_n, zu_d, zu_c, nI_add, nI_clamp, false_or, or_false, false_and, and_false, zlt, zle, zeq, zeq0, zgt0, zle0, zsub, zm1, zne1, zle_t, zle_f, zlt_t, zlt_f, zen_t, zen_f, Option.toList_none, Option.toList_some, List.nil_append, List.cons_append, Nat.add_sub_cancel, zf_240_0, zf_240_1, zf_240_2, zf_240_3, zf_240_4, zf_240_5, zf_240_6, zf_240_7, zf_240_8, zf_240_9, zf_240_10, zf_240_11, zf_240_12, zf_240_13, zf_240_14, zf_240_15, zf_240_16, zf_240_17, zf_240_18, zf_240_19, zf_240_20, zf_240_21, zf_240_22, zf_240_23, zf_240_24, zf_240_25, zf_240_26, zf_240_27, zf_240_28, zf_240_29, zf_240_30, zf_240_31, zf_240_32, zf_240_33, zf_240_34, zf_240_35, zf_240_36, zf_240_37, zf_240_38, zf_240_39, zf_240_40, zf_240_41, zf_240_42, zf_240_43, zf_240_44, zf_240_45, zf_240_46, zf_240_47, zf_240_48, zf_240_49, zf_240_50, zf_240_51, zf_240_52, zf_240_53, zf_240_54, zf_240_55, zf_240_56, zf_240_57, zf_240_58, zf_240_59, zf_240_60, zf_240_61, zf_240_62, zf_240_63, zf_240_64, zf_240_65, zf_240_66, zf_240_67, zf_240_68, zf_240_69, zf_240_70, zf_240_71, zf_240_72, zc_240, za_241, za_242, za_243, za_244, za_245, za_246, za_247, za_248, za_249, za_250, za_251, za_252, za_253, za_254, za_255, za_256, za_257, za_258, za_259, za_260, za_261, zan_261, za_262, zan_262, za_263, za_264, za_265, za_266, za_267, za_268, za_269, za_270, za_271, za_272, za_273, za_274, za_275, za_276, za_277, za_278, zan_278, za_279, za_280, za_281, za_282, za_283, za_284, za_285, za_286, za_287, zr_240_0, zr_240_3, zr_240_4, zr_240_5, zr_240_9, zr_240_10, zr_240_12, zr_240_13, zr_240_14, zr_240_17, zr_240_18, zr_240_19, zr_240_20, zr_240_22, zr_240_23, zr_240_24, zr_240_25, zr_240_26, zr_240_30, zr_240_31, zr_240_32, zr_240_33, zr_240_34, zr_240_35, zr_240_36, zr_240_37, zr_240_38, zr_240_41, zr_240_42, zr_240_46, zr_240_48, zr_240_49, zr_240_50, zr_240_51, zr_240_53, zr_240_54, zr_240_55, zr_240_56, zr_240_57, zr_240_61, zr_240_62, zr_240_63, zr_240_64, zr_240_66, zr_240_68, zr_240_70, zr_240_72]
      refine ih (k + 1) (by omega) (by omega) B' I' _ (by simp only [zbd, hz]; exact q1) ?_ (hf.tr q3)
      rw [if_neg (by omega)]
      obtain ⟨sc, sn, sa, vc, vn, cnt, cod, nv, fa⟩ := B'
      exact q2
    have hN' : zbt (znm b n (nt k)) (ziv (znm b n (nt k))) (pa k) (so k) (sc, sn, sa, vc, vn, cnt, cod, nv, fa) = none → ∀ I', zfW I0 I' → Q (some (.int (nI k))) zE I' J (zR hp sp tp) := fun q I' q3 => hN k _ I' hkc hz q (hf.tr q3)
    have hfr4 : znb so (2 * r) c ≤ 4000 := by omega
    have hot4 : znb so (2 * r + 1) c ≤ 4000 := by omega
    have hc40 : ∀ s, cnt s ≤ 40 := fun s => (b4 s).2.1
    have hsa : ∀ i, i < sc → sa i ≤ 4000 := fun i hi => (b2 i hi).2
    rw [k124_27]
    by_cases hin : k < znb so (2 * r + 1) c
    · have hsk : so k = 2 * r := by have := (hT k hkc (2 * r + 1)).mpr hin; omega
      rw [hsk] at hv1 hcs hY' hN'
      rw [show 2 * r / 2 = r by omega] at hv1
      have hve : (if k = znb so (2 * r) c then 0 else zBc (sc, sn, sa, vc, vn, cnt, cod, nv, fa)) = (if cnt (2 * r) = 0 ∧ 2 * r % 2 = 0 then 0 else vc) := by
        by_cases q : k = znb so (2 * r) c
        · rw [if_pos q, if_pos ⟨by omega, by omega⟩]
        · rw [if_neg q, if_neg (by omega)]; rfl
      rw [hve] at hm
      simp (disch := first | omega | decide) only [k124_7, k124_8, k124_9, k124_12, k124_15, k124_16, k124_17, k124_20, k124_21, k124_24, k124_25, k124_26, k124_28, k124_29, k124_32, k124_33, k124_34, k124_35, k124_36, k124_39, k124_40, k124_41, k124_44, k124_45, k124_46, k124_49, k124_50, k124_53, k124_54, k124_55, k124_56, k124_57, k124_58, k124_59, k124_60, k124_63, k124_64, k124_65, k124_68, k124_69, k124_70, k124_71, k124_74, k124_75, k124_76, k124_79, k124_80, k124_81, k124_82, k124_96, k124_99, k124_102, k124_103, ↓zite, ↓reduceIte, zadd1, ↓zli_0, ↓zli_s, ↓zll_0, ↓zll_s, ↓zla_r, ↓zla_n, ↓zla_x, ↓zla_v, ↓zla_s, ↓zst_0, ↓zst_1, ↓zst_s, ↓zst2_0, ↓zst2_1, ↓zst2_s, zki_i, zki_r, zki_n, zki_x, zki_l, zki_0, zki_v, zwt_0, zwt_i, zwt_l, zwt_r, zwt_n, zwt_x, zwt_v, zrv_0, zrv_s, zca_r, zca_n, zca_i, zca_l, zca_v, true_and, and_true, and_self, true_imp_iff, false_imp_iff, imp_self, not_true_eq_false, not_false_eq_true, forall_const, Nat.reduceAdd, Nat.reduceLeDiff, z01_0, z01_1, zlt0, zge0, zu_s, zu_n, zu_d, zu_c, nI_add, nI_clamp, false_or, or_false, false_and, and_false, zlt, zle, zeq, zeq0, zgt0, zle0, zsub, zm1, zne1, zle_t, zle_f, zlt_t, zlt_f, zen_t, zen_f, Option.toList_none, Option.toList_some, List.nil_append, List.cons_append, Nat.add_sub_cancel, zf_240_0, zf_240_1, zf_240_2, zf_240_3, zf_240_4, zf_240_5, zf_240_6, zf_240_7, zf_240_8, zf_240_9, zf_240_10, zf_240_11, zf_240_12, zf_240_13, zf_240_14, zf_240_15, zf_240_16, zf_240_17, zf_240_18, zf_240_19, zf_240_20, zf_240_21, zf_240_22, zf_240_23, zf_240_24, zf_240_25, zf_240_26, zf_240_27, zf_240_28, zf_240_29, zf_240_30, zf_240_31, zf_240_32, zf_240_33, zf_240_34, zf_240_35, zf_240_36, zf_240_37, zf_240_38, zf_240_39, zf_240_40, zf_240_41, zf_240_42, zf_240_43, zf_240_44, zf_240_45, zf_240_46, zf_240_47, zf_240_48, zf_240_49, zf_240_50, zf_240_51, zf_240_52, zf_240_53, zf_240_54, zf_240_55, zf_240_56, zf_240_57, zf_240_58, zf_240_59, zf_240_60, zf_240_61, zf_240_62, zf_240_63, zf_240_64, zf_240_65, zf_240_66, zf_240_67, zf_240_68, zf_240_69, zf_240_70, zf_240_71, zf_240_72, zc_240, za_241, za_242, za_243, za_244, za_245, za_246, za_247, za_248, za_249, za_250, za_251, za_252, za_253, za_254, za_255, za_256, za_257, za_258, za_259, za_260, za_261, zan_261, za_262, zan_262, za_263, za_264, za_265, za_266, za_267, za_268, za_269, za_270, za_271, za_272, za_273, za_274, za_275, za_276, za_277, za_278, zan_278, za_279, za_280, za_281, za_282, za_283, za_284, za_285, za_286, za_287, zr_240_0, zr_240_3, zr_240_4, zr_240_5, zr_240_9, zr_240_10, zr_240_12, zr_240_13, zr_240_14, zr_240_17, zr_240_18, zr_240_19, zr_240_20, zr_240_22, zr_240_23, zr_240_24, zr_240_25, zr_240_26, zr_240_30, zr_240_31, zr_240_32, zr_240_33, zr_240_34, zr_240_35, zr_240_36, zr_240_37, zr_240_38, zr_240_41, zr_240_42, zr_240_46, zr_240_48, zr_240_49, zr_240_50, zr_240_51, zr_240_53, zr_240_54, zr_240_55, zr_240_56, zr_240_57, zr_240_61, zr_240_62, zr_240_63, zr_240_64, zr_240_66, zr_240_68, zr_240_70, zr_240_72, e1, q48, q49]
      rw [← hcs]
      refine c_isRight_1 (vc := vc) (fr := znb so (2 * r) c) (ot := znb so (2 * r + 1) c) (sc := sc) (sn := sn) (sa := sa) (vn := vn) (cnt := cnt) (cod := cod) (nv := nv) (fa := fa) (vc0 := 0) hn hTn hb1 m1 m2 n1 n2 n3 (by omega) n5 r45 r46 hr20 b1 hsa hv1 hc40 q48 q49 hfr4 hot4 (fun q _ => ?_) hm (fun B' I' q1 q2 q3 => ?_) (fun q1 I' q3 => ?_)
      · have hp0 := n6 (n3.mpr q)
        constructor
        · intro q0
          have : k = znb so (2 * r) c := by omega
          rw [← this] at z0 ⊢
          have := zS_1' z0
          rw [hp0] at this
          have := zS_0' this
          omega
        · intro q0; omega
      · simp (disch := first | omega | decide) only [k124_85, k124_88, k124_89, ↓zite, ↓reduceIte, zadd1, ↓zli_0, ↓zli_s, ↓zll_0, ↓zll_s, ↓zla_r, ↓zla_n, ↓zla_x, ↓zla_v, ↓zla_s, ↓zst_0, ↓zst_1, ↓zst_s, ↓zst2_0, ↓zst2_1, ↓zst2_s, zki_i, zki_r, zki_n, zki_x, zki_l, zki_0, zki_v, zwt_0, zwt_i, zwt_l, zwt_r, zwt_n, zwt_x, zwt_v, zrv_0, zrv_s, zca_r, zca_n, zca_i, zca_l, zca_v, true_and, and_true, and_self, true_imp_iff, false_imp_iff, imp_self, not_true_eq_false, not_false_eq_true, forall_const, Nat.reduceAdd, Nat.reduceLeDiff, z01_0, z01_1, zlt0, zge0, zu_s, zu_n, zu_d, zu_c, nI_add, nI_clamp, false_or, or_false, false_and, and_false, zlt, zle, zeq, zeq0, zgt0, zle0, zsub, zm1, zne1, zle_t, zle_f, zlt_t, zlt_f, zen_t, zen_f, Option.toList_none, Option.toList_some, List.nil_append, List.cons_append, Nat.add_sub_cancel, zf_240_0, zf_240_1, zf_240_2, zf_240_3, zf_240_4, zf_240_5, zf_240_6, zf_240_7, zf_240_8, zf_240_9, zf_240_10, zf_240_11, zf_240_12, zf_240_13, zf_240_14, zf_240_15, zf_240_16, zf_240_17, zf_240_18, zf_240_19, zf_240_20, zf_240_21, zf_240_22, zf_240_23, zf_240_24, zf_240_25, zf_240_26, zf_240_27, zf_240_28, zf_240_29, zf_240_30, zf_240_31, zf_240_32, zf_240_33, zf_240_34, zf_240_35, zf_240_36, zf_240_37, zf_240_38, zf_240_39, zf_240_40, zf_240_41, zf_240_42, zf_240_43, zf_240_44, zf_240_45, zf_240_46, zf_240_47, zf_240_48, zf_240_49, zf_240_50, zf_240_51, zf_240_52, zf_240_53, zf_240_54, zf_240_55, zf_240_56, zf_240_57, zf_240_58, zf_240_59, zf_240_60, zf_240_61, zf_240_62, zf_240_63, zf_240_64, zf_240_65, zf_240_66, zf_240_67, zf_240_68, zf_240_69, zf_240_70, zf_240_71, zf_240_72, zc_240, za_241, za_242, za_243, za_244, za_245, za_246, za_247, za_248, za_249, za_250, za_251, za_252, za_253, za_254, za_255, za_256, za_257, za_258, za_259, za_260, za_261, zan_261, za_262, zan_262, za_263, za_264, za_265, za_266, za_267, za_268, za_269, za_270, za_271, za_272, za_273, za_274, za_275, za_276, za_277, za_278, zan_278, za_279, za_280, za_281, za_282, za_283, za_284, za_285, za_286, za_287, zr_240_0, zr_240_3, zr_240_4, zr_240_5, zr_240_9, zr_240_10, zr_240_12, zr_240_13, zr_240_14, zr_240_17, zr_240_18, zr_240_19, zr_240_20, zr_240_22, zr_240_23, zr_240_24, zr_240_25, zr_240_26, zr_240_30, zr_240_31, zr_240_32, zr_240_33, zr_240_34, zr_240_35, zr_240_36, zr_240_37, zr_240_38, zr_240_41, zr_240_42, zr_240_46, zr_240_48, zr_240_49, zr_240_50, zr_240_51, zr_240_53, zr_240_54, zr_240_55, zr_240_56, zr_240_57, zr_240_61, zr_240_62, zr_240_63, zr_240_64, zr_240_66, zr_240_68, zr_240_70, zr_240_72]
        exact hY' B' I' _ q1 q2 q3
      · simp (disch := first | omega | decide) only [k124_85, k124_88, k124_89, ↓zite, ↓reduceIte, zadd1, ↓zli_0, ↓zli_s, ↓zll_0, ↓zll_s, ↓zla_r, ↓zla_n, ↓zla_x, ↓zla_v, ↓zla_s, ↓zst_0, ↓zst_1, ↓zst_s, ↓zst2_0, ↓zst2_1, ↓zst2_s, zki_i, zki_r, zki_n, zki_x, zki_l, zki_0, zki_v, zwt_0, zwt_i, zwt_l, zwt_r, zwt_n, zwt_x, zwt_v, zrv_0, zrv_s, zca_r, zca_n, zca_i, zca_l, zca_v, true_and, and_true, and_self, true_imp_iff, false_imp_iff, imp_self, not_true_eq_false, not_false_eq_true, forall_const, Nat.reduceAdd, Nat.reduceLeDiff, z01_0, z01_1, zlt0, zge0, zu_s, zu_n, zu_d, zu_c, nI_add, nI_clamp, false_or, or_false, false_and, and_false, zlt, zle, zeq, zeq0, zgt0, zle0, zsub, zm1, zne1, zle_t, zle_f, zlt_t, zlt_f, zen_t, zen_f, Option.toList_none, Option.toList_some, List.nil_append, List.cons_append, Nat.add_sub_cancel, zf_240_0, zf_240_1, zf_240_2, zf_240_3, zf_240_4, zf_240_5, zf_240_6, zf_240_7, zf_240_8, zf_240_9, zf_240_10, zf_240_11, zf_240_12, zf_240_13, zf_240_14, zf_240_15, zf_240_16, zf_240_17, zf_240_18, zf_240_19, zf_240_20, zf_240_21, zf_240_22, zf_240_23, zf_240_24, zf_240_25, zf_240_26, zf_240_27, zf_240_28, zf_240_29, zf_240_30, zf_240_31, zf_240_32, zf_240_33, zf_240_34, zf_240_35, zf_240_36, zf_240_37, zf_240_38, zf_240_39, zf_240_40, zf_240_41, zf_240_42, zf_240_43, zf_240_44, zf_240_45, zf_240_46, zf_240_47, zf_240_48, zf_240_49, zf_240_50, zf_240_51, zf_240_52, zf_240_53, zf_240_54, zf_240_55, zf_240_56, zf_240_57, zf_240_58, zf_240_59, zf_240_60, zf_240_61, zf_240_62, zf_240_63, zf_240_64, zf_240_65, zf_240_66, zf_240_67, zf_240_68, zf_240_69, zf_240_70, zf_240_71, zf_240_72, zc_240, za_241, za_242, za_243, za_244, za_245, za_246, za_247, za_248, za_249, za_250, za_251, za_252, za_253, za_254, za_255, za_256, za_257, za_258, za_259, za_260, za_261, zan_261, za_262, zan_262, za_263, za_264, za_265, za_266, za_267, za_268, za_269, za_270, za_271, za_272, za_273, za_274, za_275, za_276, za_277, za_278, zan_278, za_279, za_280, za_281, za_282, za_283, za_284, za_285, za_286, za_287, zr_240_0, zr_240_3, zr_240_4, zr_240_5, zr_240_9, zr_240_10, zr_240_12, zr_240_13, zr_240_14, zr_240_17, zr_240_18, zr_240_19, zr_240_20, zr_240_22, zr_240_23, zr_240_24, zr_240_25, zr_240_26, zr_240_30, zr_240_31, zr_240_32, zr_240_33, zr_240_34, zr_240_35, zr_240_36, zr_240_37, zr_240_38, zr_240_41, zr_240_42, zr_240_46, zr_240_48, zr_240_49, zr_240_50, zr_240_51, zr_240_53, zr_240_54, zr_240_55, zr_240_56, zr_240_57, zr_240_61, zr_240_62, zr_240_63, zr_240_64, zr_240_66, zr_240_68, zr_240_70, zr_240_72]
        exact hN' q1 I' q3
    · have hsk : so k = 2 * r + 1 := by
        have : ¬ so k < 2 * r + 1 := fun q => hin ((hT k hkc (2 * r + 1)).mp q)
        omega
      rw [hsk] at hv1 hcs hY' hN'
      rw [show (2 * r + 1) / 2 = r by omega] at hv1
      have hve : (if k = znb so (2 * r) c then 0 else zBc (sc, sn, sa, vc, vn, cnt, cod, nv, fa)) = (if cnt (2 * r + 1) = 0 ∧ (2 * r + 1) % 2 = 0 then 0 else vc) := by
        rw [if_neg (by omega), if_neg (by omega)]; rfl
      rw [hve] at hm
      simp (disch := first | omega | decide) only [k124_7, k124_8, k124_9, k124_12, k124_15, k124_16, k124_17, k124_20, k124_21, k124_24, k124_25, k124_26, k124_28, k124_29, k124_32, k124_33, k124_34, k124_35, k124_36, k124_39, k124_40, k124_41, k124_44, k124_45, k124_46, k124_49, k124_50, k124_53, k124_54, k124_55, k124_56, k124_57, k124_58, k124_59, k124_60, k124_63, k124_64, k124_65, k124_68, k124_69, k124_70, k124_71, k124_74, k124_75, k124_76, k124_79, k124_80, k124_81, k124_82, k124_96, k124_99, k124_102, k124_103, ↓zite, ↓reduceIte, zadd1, ↓zli_0, ↓zli_s, ↓zll_0, ↓zll_s, ↓zla_r, ↓zla_n, ↓zla_x, ↓zla_v, ↓zla_s, ↓zst_0, ↓zst_1, ↓zst_s, ↓zst2_0, ↓zst2_1, ↓zst2_s, zki_i, zki_r, zki_n, zki_x, zki_l, zki_0, zki_v, zwt_0, zwt_i, zwt_l, zwt_r, zwt_n, zwt_x, zwt_v, zrv_0, zrv_s, zca_r, zca_n, zca_i, zca_l, zca_v, true_and, and_true, and_self, true_imp_iff, false_imp_iff, imp_self, not_true_eq_false, not_false_eq_true, forall_const, Nat.reduceAdd, Nat.reduceLeDiff, z01_0, z01_1, zlt0, zge0, zu_s, zu_n, zu_d, zu_c, nI_add, nI_clamp, false_or, or_false, false_and, and_false, zlt, zle, zeq, zeq0, zgt0, zle0, zsub, zm1, zne1, zle_t, zle_f, zlt_t, zlt_f, zen_t, zen_f, Option.toList_none, Option.toList_some, List.nil_append, List.cons_append, Nat.add_sub_cancel, zf_240_0, zf_240_1, zf_240_2, zf_240_3, zf_240_4, zf_240_5, zf_240_6, zf_240_7, zf_240_8, zf_240_9, zf_240_10, zf_240_11, zf_240_12, zf_240_13, zf_240_14, zf_240_15, zf_240_16, zf_240_17, zf_240_18, zf_240_19, zf_240_20, zf_240_21, zf_240_22, zf_240_23, zf_240_24, zf_240_25, zf_240_26, zf_240_27, zf_240_28, zf_240_29, zf_240_30, zf_240_31, zf_240_32, zf_240_33, zf_240_34, zf_240_35, zf_240_36, zf_240_37, zf_240_38, zf_240_39, zf_240_40, zf_240_41, zf_240_42, zf_240_43, zf_240_44, zf_240_45, zf_240_46, zf_240_47, zf_240_48, zf_240_49, zf_240_50, zf_240_51, zf_240_52, zf_240_53, zf_240_54, zf_240_55, zf_240_56, zf_240_57, zf_240_58, zf_240_59, zf_240_60, zf_240_61, zf_240_62, zf_240_63, zf_240_64, zf_240_65, zf_240_66, zf_240_67, zf_240_68, zf_240_69, zf_240_70, zf_240_71, zf_240_72, zc_240, za_241, za_242, za_243, za_244, za_245, za_246, za_247, za_248, za_249, za_250, za_251, za_252, za_253, za_254, za_255, za_256, za_257, za_258, za_259, za_260, za_261, zan_261, za_262, zan_262, za_263, za_264, za_265, za_266, za_267, za_268, za_269, za_270, za_271, za_272, za_273, za_274, za_275, za_276, za_277, za_278, zan_278, za_279, za_280, za_281, za_282, za_283, za_284, za_285, za_286, za_287, zr_240_0, zr_240_3, zr_240_4, zr_240_5, zr_240_9, zr_240_10, zr_240_12, zr_240_13, zr_240_14, zr_240_17, zr_240_18, zr_240_19, zr_240_20, zr_240_22, zr_240_23, zr_240_24, zr_240_25, zr_240_26, zr_240_30, zr_240_31, zr_240_32, zr_240_33, zr_240_34, zr_240_35, zr_240_36, zr_240_37, zr_240_38, zr_240_41, zr_240_42, zr_240_46, zr_240_48, zr_240_49, zr_240_50, zr_240_51, zr_240_53, zr_240_54, zr_240_55, zr_240_56, zr_240_57, zr_240_61, zr_240_62, zr_240_63, zr_240_64, zr_240_66, zr_240_68, zr_240_70, zr_240_72, e1, q48, q49]
      rw [← hcs]
      refine c_isRight_0 (vc := vc) (fr := znb so (2 * r) c) (ot := znb so (2 * r + 1) c) (sc := sc) (sn := sn) (sa := sa) (vn := vn) (cnt := cnt) (cod := cod) (nv := nv) (fa := fa) (vc0 := 0) hn hTn hb1 m1 m2 n1 n2 n3 (by omega) n5 r45 r46 hr20 b1 hsa hv1 hc40 q48 q49 hfr4 hot4 (fun _ q => absurd q (by decide)) hm (fun B' I' q1 q2 q3 => ?_) (fun q1 I' q3 => ?_)
      · simp (disch := first | omega | decide) only [k124_85, k124_88, k124_89, ↓zite, ↓reduceIte, zadd1, ↓zli_0, ↓zli_s, ↓zll_0, ↓zll_s, ↓zla_r, ↓zla_n, ↓zla_x, ↓zla_v, ↓zla_s, ↓zst_0, ↓zst_1, ↓zst_s, ↓zst2_0, ↓zst2_1, ↓zst2_s, zki_i, zki_r, zki_n, zki_x, zki_l, zki_0, zki_v, zwt_0, zwt_i, zwt_l, zwt_r, zwt_n, zwt_x, zwt_v, zrv_0, zrv_s, zca_r, zca_n, zca_i, zca_l, zca_v, true_and, and_true, and_self, true_imp_iff, false_imp_iff, imp_self, not_true_eq_false, not_false_eq_true, forall_const, Nat.reduceAdd, Nat.reduceLeDiff, z01_0, z01_1, zlt0, zge0, zu_s, zu_n, zu_d, zu_c, nI_add, nI_clamp, false_or, or_false, false_and, and_false, zlt, zle, zeq, zeq0, zgt0, zle0, zsub, zm1, zne1, zle_t, zle_f, zlt_t, zlt_f, zen_t, zen_f, Option.toList_none, Option.toList_some, List.nil_append, List.cons_append, Nat.add_sub_cancel, zf_240_0, zf_240_1, zf_240_2, zf_240_3, zf_240_4, zf_240_5, zf_240_6, zf_240_7, zf_240_8, zf_240_9, zf_240_10, zf_240_11, zf_240_12, zf_240_13, zf_240_14, zf_240_15, zf_240_16, zf_240_17, zf_240_18, zf_240_19, zf_240_20, zf_240_21, zf_240_22, zf_240_23, zf_240_24, zf_240_25, zf_240_26, zf_240_27, zf_240_28, zf_240_29, zf_240_30, zf_240_31, zf_240_32, zf_240_33, zf_240_34, zf_240_35, zf_240_36, zf_240_37, zf_240_38, zf_240_39, zf_240_40, zf_240_41, zf_240_42, zf_240_43, zf_240_44, zf_240_45, zf_240_46, zf_240_47, zf_240_48, zf_240_49, zf_240_50, zf_240_51, zf_240_52, zf_240_53, zf_240_54, zf_240_55, zf_240_56, zf_240_57, zf_240_58, zf_240_59, zf_240_60, zf_240_61, zf_240_62, zf_240_63, zf_240_64, zf_240_65, zf_240_66, zf_240_67, zf_240_68, zf_240_69, zf_240_70, zf_240_71, zf_240_72, zc_240, za_241, za_242, za_243, za_244, za_245, za_246, za_247, za_248, za_249, za_250, za_251, za_252, za_253, za_254, za_255, za_256, za_257, za_258, za_259, za_260, za_261, zan_261, za_262, zan_262, za_263, za_264, za_265, za_266, za_267, za_268, za_269, za_270, za_271, za_272, za_273, za_274, za_275, za_276, za_277, za_278, zan_278, za_279, za_280, za_281, za_282, za_283, za_284, za_285, za_286, za_287, zr_240_0, zr_240_3, zr_240_4, zr_240_5, zr_240_9, zr_240_10, zr_240_12, zr_240_13, zr_240_14, zr_240_17, zr_240_18, zr_240_19, zr_240_20, zr_240_22, zr_240_23, zr_240_24, zr_240_25, zr_240_26, zr_240_30, zr_240_31, zr_240_32, zr_240_33, zr_240_34, zr_240_35, zr_240_36, zr_240_37, zr_240_38, zr_240_41, zr_240_42, zr_240_46, zr_240_48, zr_240_49, zr_240_50, zr_240_51, zr_240_53, zr_240_54, zr_240_55, zr_240_56, zr_240_57, zr_240_61, zr_240_62, zr_240_63, zr_240_64, zr_240_66, zr_240_68, zr_240_70, zr_240_72]
        exact hY' B' I' _ q1 q2 q3
      · simp (disch := first | omega | decide) only [k124_85, k124_88, k124_89, ↓zite, ↓reduceIte, zadd1, ↓zli_0, ↓zli_s, ↓zll_0, ↓zll_s, ↓zla_r, ↓zla_n, ↓zla_x, ↓zla_v, ↓zla_s, ↓zst_0, ↓zst_1, ↓zst_s, ↓zst2_0, ↓zst2_1, ↓zst2_s, zki_i, zki_r, zki_n, zki_x, zki_l, zki_0, zki_v, zwt_0, zwt_i, zwt_l, zwt_r, zwt_n, zwt_x, zwt_v, zrv_0, zrv_s, zca_r, zca_n, zca_i, zca_l, zca_v, true_and, and_true, and_self, true_imp_iff, false_imp_iff, imp_self, not_true_eq_false, not_false_eq_true, forall_const, Nat.reduceAdd, Nat.reduceLeDiff, z01_0, z01_1, zlt0, zge0, zu_s, zu_n, zu_d, zu_c, nI_add, nI_clamp, false_or, or_false, false_and, and_false, zlt, zle, zeq, zeq0, zgt0, zle0, zsub, zm1, zne1, zle_t, zle_f, zlt_t, zlt_f, zen_t, zen_f, Option.toList_none, Option.toList_some, List.nil_append, List.cons_append, Nat.add_sub_cancel, zf_240_0, zf_240_1, zf_240_2, zf_240_3, zf_240_4, zf_240_5, zf_240_6, zf_240_7, zf_240_8, zf_240_9, zf_240_10, zf_240_11, zf_240_12, zf_240_13, zf_240_14, zf_240_15, zf_240_16, zf_240_17, zf_240_18, zf_240_19, zf_240_20, zf_240_21, zf_240_22, zf_240_23, zf_240_24, zf_240_25, zf_240_26, zf_240_27, zf_240_28, zf_240_29, zf_240_30, zf_240_31, zf_240_32, zf_240_33, zf_240_34, zf_240_35, zf_240_36, zf_240_37, zf_240_38, zf_240_39, zf_240_40, zf_240_41, zf_240_42, zf_240_43, zf_240_44, zf_240_45, zf_240_46, zf_240_47, zf_240_48, zf_240_49, zf_240_50, zf_240_51, zf_240_52, zf_240_53, zf_240_54, zf_240_55, zf_240_56, zf_240_57, zf_240_58, zf_240_59, zf_240_60, zf_240_61, zf_240_62, zf_240_63, zf_240_64, zf_240_65, zf_240_66, zf_240_67, zf_240_68, zf_240_69, zf_240_70, zf_240_71, zf_240_72, zc_240, za_241, za_242, za_243, za_244, za_245, za_246, za_247, za_248, za_249, za_250, za_251, za_252, za_253, za_254, za_255, za_256, za_257, za_258, za_259, za_260, za_261, zan_261, za_262, zan_262, za_263, za_264, za_265, za_266, za_267, za_268, za_269, za_270, za_271, za_272, za_273, za_274, za_275, za_276, za_277, za_278, zan_278, za_279, za_280, za_281, za_282, za_283, za_284, za_285, za_286, za_287, zr_240_0, zr_240_3, zr_240_4, zr_240_5, zr_240_9, zr_240_10, zr_240_12, zr_240_13, zr_240_14, zr_240_17, zr_240_18, zr_240_19, zr_240_20, zr_240_22, zr_240_23, zr_240_24, zr_240_25, zr_240_26, zr_240_30, zr_240_31, zr_240_32, zr_240_33, zr_240_34, zr_240_35, zr_240_36, zr_240_37, zr_240_38, zr_240_41, zr_240_42, zr_240_46, zr_240_48, zr_240_49, zr_240_50, zr_240_51, zr_240_53, zr_240_54, zr_240_55, zr_240_56, zr_240_57, zr_240_61, zr_240_62, zr_240_63, zr_240_64, zr_240_66, zr_240_68, zr_240_70, zr_240_72]
        exact hN' q1 I' q3
set_option maxRecDepth 100000 in
set_option maxHeartbeats 4000000 in
theorem l_wrong (hF : zTF b n T nt pa so c rd) (hM : zTM b n T nt pa so c rd I)
    (hN : ∀ k B I', k < c → zbd (fun i => znm b n (nt i)) (fun i => ziv (znm b n (nt i))) pa so k = some B → zbt (znm b n (nt k)) (ziv (znm b n (nt k))) (pa k) (so k) B = none → zfW I I' → Q (some (.int (nI k))) zE I' J (zR hp sp tp))
    (hY : ∀ B I', zbd (fun i => znm b n (nt i)) (fun i => ziv (znm b n (nt i))) pa so c = some B → zMB0 b n T B I' → zfW I I' → Q (some (.int (-1))) zE I' J (zR hp sp tp)) : ∀ g r, r + g = rd → ∀ B I0 l2 l3, zbd (fun i => znm b n (nt i)) (fun i => ziv (znm b n (nt i))) pa so (znb so (2 * r) c) = some B → zMB0 b n T B I0 → zfW I I0 → wp X 124 7 [some (.ref 240), some (.int (nI r)), l2, l3] [] zE I0 J (zR hp sp tp) Q := by
  obtain ⟨hn, hTn, hb1, hs, hc, hso, hS, hnd⟩ := id hF
  have hrd4 : rd ≤ 1000 := by
    have hge : ∀ v, v ≤ 2 * rd → v ≤ znb so v c := by
      intro v
      induction v with
      | zero => intro _; omega
      | succ v ih => intro hv; have := ih (by omega); have := zS_le (hS v (by omega)); omega
    have := hge (2 * rd) (Nat.le_refl _)
    have := znb_le (so := so) (v := 2 * rd) c
    omega
  have hcc : znb so (2 * rd) c = c := znb_all c (fun i hi => hso i hi)
  intro g
  induction g with
  | zero =>
    intro r hr B I0 l2 l3 hz hm hf
    have : r = rd := by omega
    subst this
    rw [hcc] at hz
    have m6 := (hM.fr hf).2.2.2.2.2
    rw [k124_7]
    simp (disch := first | omega | decide) only [k124_8, k124_9, k124_12, k124_15, k124_16, k124_17, k124_20, k124_21, k124_24, k124_25, k124_26, k124_27, k124_28, k124_29, k124_32, k124_33, k124_34, k124_35, k124_36, k124_39, k124_40, k124_41, k124_44, k124_45, k124_46, k124_49, k124_50, k124_53, k124_54, k124_55, k124_56, k124_57, k124_58, k124_59, k124_60, k124_63, k124_64, k124_65, k124_68, k124_69, k124_70, k124_71, k124_74, k124_75, k124_76, k124_79, k124_80, k124_81, k124_82, k124_85, k124_88, k124_89, k124_90, k124_93, k124_96, k124_99, k124_102, k124_103, ↓zite, ↓reduceIte, zadd1, ↓zli_0, ↓zli_s, ↓zll_0, ↓zll_s, ↓zla_r, ↓zla_n, ↓zla_x, ↓zla_v, ↓zla_s, ↓zst_0, ↓zst_1, ↓zst_s, ↓zst2_0, ↓zst2_1, ↓zst2_s, zki_i, zki_r, zki_n, zki_x, zki_l, zki_0, zki_v, zwt_0, zwt_i, zwt_l, zwt_r, zwt_n, zwt_x, zwt_v, zrv_0, zrv_s, zca_r, zca_n, zca_i, zca_l, zca_v, true_and, and_true, and_self, true_imp_iff, false_imp_iff, imp_self, not_true_eq_false, not_false_eq_true, forall_const, Nat.reduceAdd, Nat.reduceLeDiff, z01_0, z01_1, zlt0, zge0, zu_s, zu_n, zu_d, zu_c, nI_add, nI_clamp, false_or, or_false, false_and, and_false, zlt, zle, zeq, zeq0, zgt0, zle0, zsub, zm1, zne1, zle_t, zle_f, zlt_t, zlt_f, zen_t, zen_f, Option.toList_none, Option.toList_some, List.nil_append, List.cons_append, Nat.add_sub_cancel, zf_240_0, zf_240_1, zf_240_2, zf_240_3, zf_240_4, zf_240_5, zf_240_6, zf_240_7, zf_240_8, zf_240_9, zf_240_10, zf_240_11, zf_240_12, zf_240_13, zf_240_14, zf_240_15, zf_240_16, zf_240_17, zf_240_18, zf_240_19, zf_240_20, zf_240_21, zf_240_22, zf_240_23, zf_240_24, zf_240_25, zf_240_26, zf_240_27, zf_240_28, zf_240_29, zf_240_30, zf_240_31, zf_240_32, zf_240_33, zf_240_34, zf_240_35, zf_240_36, zf_240_37, zf_240_38, zf_240_39, zf_240_40, zf_240_41, zf_240_42, zf_240_43, zf_240_44, zf_240_45, zf_240_46, zf_240_47, zf_240_48, zf_240_49, zf_240_50, zf_240_51, zf_240_52, zf_240_53, zf_240_54, zf_240_55, zf_240_56, zf_240_57, zf_240_58, zf_240_59, zf_240_60, zf_240_61, zf_240_62, zf_240_63, zf_240_64, zf_240_65, zf_240_66, zf_240_67, zf_240_68, zf_240_69, zf_240_70, zf_240_71, zf_240_72, zc_240, za_241, za_242, za_243, za_244, za_245, za_246, za_247, za_248, za_249, za_250, za_251, za_252, za_253, za_254, za_255, za_256, za_257, za_258, za_259, za_260, za_261, zan_261, za_262, zan_262, za_263, za_264, za_265, za_266, za_267, za_268, za_269, za_270, za_271, za_272, za_273, za_274, za_275, za_276, za_277, za_278, zan_278, za_279, za_280, za_281, za_282, za_283, za_284, za_285, za_286, za_287, zr_240_0, zr_240_3, zr_240_4, zr_240_5, zr_240_9, zr_240_10, zr_240_12, zr_240_13, zr_240_14, zr_240_17, zr_240_18, zr_240_19, zr_240_20, zr_240_22, zr_240_23, zr_240_24, zr_240_25, zr_240_26, zr_240_30, zr_240_31, zr_240_32, zr_240_33, zr_240_34, zr_240_35, zr_240_36, zr_240_37, zr_240_38, zr_240_41, zr_240_42, zr_240_46, zr_240_48, zr_240_49, zr_240_50, zr_240_51, zr_240_53, zr_240_54, zr_240_55, zr_240_56, zr_240_57, zr_240_61, zr_240_62, zr_240_63, zr_240_64, zr_240_66, zr_240_68, zr_240_70, zr_240_72, m6]
    exact hY B I0 hz hm hf
  | succ g ih =>
    intro r hr B I0 l2 l3 hz hm hf
    obtain ⟨m1, m2, m3, m4, m5, m6⟩ := hM.fr hf
    obtain ⟨q48, q49⟩ := m4 r (by omega)
    have l0 := zS_le (hS (2 * r) (by omega))
    have l1 : znb so (2 * r + 1) c + 1 ≤ znb so (2 * r + 2) c := zS_le (hS (2 * r + 1) (by omega))
    have lc := znb_le (so := so) (v := 2 * r + 2) c
    rw [k124_7]
    simp (disch := first | omega | decide) only [k124_8, k124_9, k124_12, k124_15, k124_16, k124_17, k124_20, k124_21, k124_24, k124_25, k124_26, k124_102, k124_103, ↓zite, ↓reduceIte, zadd1, ↓zli_0, ↓zli_s, ↓zll_0, ↓zll_s, ↓zla_r, ↓zla_n, ↓zla_x, ↓zla_v, ↓zla_s, ↓zst_0, ↓zst_1, ↓zst_s, ↓zst2_0, ↓zst2_1, ↓zst2_s, zki_i, zki_r, zki_n, zki_x, zki_l, zki_0, zki_v, zwt_0, zwt_i, zwt_l, zwt_r, zwt_n, zwt_x, zwt_v, zrv_0, zrv_s, zca_r, zca_n, zca_i, zca_l, zca_v, true_and, and_true, and_self, true_imp_iff, false_imp_iff, imp_self, not_true_eq_false, not_false_eq_true, forall_const, Nat.reduceAdd, Nat.reduceLeDiff, z01_0, z01_1, zlt0, zge0, zu_s, zu_n, zu_d, zu_c, nI_add, nI_clamp, false_or, or_false, false_and, and_false, zlt, zle, zeq, zeq0, zgt0, zle0, zsub, zm1, zne1, zle_t, zle_f, zlt_t, zlt_f, zen_t, zen_f, Option.toList_none, Option.toList_some, List.nil_append, List.cons_append, Nat.add_sub_cancel, zf_240_0, zf_240_1, zf_240_2, zf_240_3, zf_240_4, zf_240_5, zf_240_6, zf_240_7, zf_240_8, zf_240_9, zf_240_10, zf_240_11, zf_240_12, zf_240_13, zf_240_14, zf_240_15, zf_240_16, zf_240_17, zf_240_18, zf_240_19, zf_240_20, zf_240_21, zf_240_22, zf_240_23, zf_240_24, zf_240_25, zf_240_26, zf_240_27, zf_240_28, zf_240_29, zf_240_30, zf_240_31, zf_240_32, zf_240_33, zf_240_34, zf_240_35, zf_240_36, zf_240_37, zf_240_38, zf_240_39, zf_240_40, zf_240_41, zf_240_42, zf_240_43, zf_240_44, zf_240_45, zf_240_46, zf_240_47, zf_240_48, zf_240_49, zf_240_50, zf_240_51, zf_240_52, zf_240_53, zf_240_54, zf_240_55, zf_240_56, zf_240_57, zf_240_58, zf_240_59, zf_240_60, zf_240_61, zf_240_62, zf_240_63, zf_240_64, zf_240_65, zf_240_66, zf_240_67, zf_240_68, zf_240_69, zf_240_70, zf_240_71, zf_240_72, zc_240, za_241, za_242, za_243, za_244, za_245, za_246, za_247, za_248, za_249, za_250, za_251, za_252, za_253, za_254, za_255, za_256, za_257, za_258, za_259, za_260, za_261, zan_261, za_262, zan_262, za_263, za_264, za_265, za_266, za_267, za_268, za_269, za_270, za_271, za_272, za_273, za_274, za_275, za_276, za_277, za_278, zan_278, za_279, za_280, za_281, za_282, za_283, za_284, za_285, za_286, za_287, zr_240_0, zr_240_3, zr_240_4, zr_240_5, zr_240_9, zr_240_10, zr_240_12, zr_240_13, zr_240_14, zr_240_17, zr_240_18, zr_240_19, zr_240_20, zr_240_22, zr_240_23, zr_240_24, zr_240_25, zr_240_26, zr_240_30, zr_240_31, zr_240_32, zr_240_33, zr_240_34, zr_240_35, zr_240_36, zr_240_37, zr_240_38, zr_240_41, zr_240_42, zr_240_46, zr_240_48, zr_240_49, zr_240_50, zr_240_51, zr_240_53, zr_240_54, zr_240_55, zr_240_56, zr_240_57, zr_240_61, zr_240_62, zr_240_63, zr_240_64, zr_240_66, zr_240_68, zr_240_70, zr_240_72, m6, q48]
    refine l_wrong_in hF hM (by omega) hN (fun B' I' l3' q1 q2 q3 => ?_) (znb so (2 * r + 2) c - znb so (2 * r) c) (znb so (2 * r) c) (by omega) (Nat.le_refl _) B _ _ hz ?_ (hf.u0 (by decide))
    · simp (disch := first | omega | decide) only [k124_96, k124_99, ↓zite, ↓reduceIte, zadd1, ↓zli_0, ↓zli_s, ↓zll_0, ↓zll_s, ↓zla_r, ↓zla_n, ↓zla_x, ↓zla_v, ↓zla_s, ↓zst_0, ↓zst_1, ↓zst_s, ↓zst2_0, ↓zst2_1, ↓zst2_s, zki_i, zki_r, zki_n, zki_x, zki_l, zki_0, zki_v, zwt_0, zwt_i, zwt_l, zwt_r, zwt_n, zwt_x, zwt_v, zrv_0, zrv_s, zca_r, zca_n, zca_i, zca_l, zca_v, true_and, and_true, and_self, true_imp_iff, false_imp_iff, imp_self, not_true_eq_false, not_false_eq_true, forall_const, Nat.reduceAdd, Nat.reduceLeDiff, z01_0, z01_1, zlt0, zge0, zu_s, zu_n, zu_d, zu_c, nI_add, nI_clamp, false_or, or_false, false_and, and_false, zlt, zle, zeq, zeq0, zgt0, zle0, zsub, zm1, zne1, zle_t, zle_f, zlt_t, zlt_f, zen_t, zen_f, Option.toList_none, Option.toList_some, List.nil_append, List.cons_append, Nat.add_sub_cancel, zf_240_0, zf_240_1, zf_240_2, zf_240_3, zf_240_4, zf_240_5, zf_240_6, zf_240_7, zf_240_8, zf_240_9, zf_240_10, zf_240_11, zf_240_12, zf_240_13, zf_240_14, zf_240_15, zf_240_16, zf_240_17, zf_240_18, zf_240_19, zf_240_20, zf_240_21, zf_240_22, zf_240_23, zf_240_24, zf_240_25, zf_240_26, zf_240_27, zf_240_28, zf_240_29, zf_240_30, zf_240_31, zf_240_32, zf_240_33, zf_240_34, zf_240_35, zf_240_36, zf_240_37, zf_240_38, zf_240_39, zf_240_40, zf_240_41, zf_240_42, zf_240_43, zf_240_44, zf_240_45, zf_240_46, zf_240_47, zf_240_48, zf_240_49, zf_240_50, zf_240_51, zf_240_52, zf_240_53, zf_240_54, zf_240_55, zf_240_56, zf_240_57, zf_240_58, zf_240_59, zf_240_60, zf_240_61, zf_240_62, zf_240_63, zf_240_64, zf_240_65, zf_240_66, zf_240_67, zf_240_68, zf_240_69, zf_240_70, zf_240_71, zf_240_72, zc_240, za_241, za_242, za_243, za_244, za_245, za_246, za_247, za_248, za_249, za_250, za_251, za_252, za_253, za_254, za_255, za_256, za_257, za_258, za_259, za_260, za_261, zan_261, za_262, zan_262, za_263, za_264, za_265, za_266, za_267, za_268, za_269, za_270, za_271, za_272, za_273, za_274, za_275, za_276, za_277, za_278, zan_278, za_279, za_280, za_281, za_282, za_283, za_284, za_285, za_286, za_287, zr_240_0, zr_240_3, zr_240_4, zr_240_5, zr_240_9, zr_240_10, zr_240_12, zr_240_13, zr_240_14, zr_240_17, zr_240_18, zr_240_19, zr_240_20, zr_240_22, zr_240_23, zr_240_24, zr_240_25, zr_240_26, zr_240_30, zr_240_31, zr_240_32, zr_240_33, zr_240_34, zr_240_35, zr_240_36, zr_240_37, zr_240_38, zr_240_41, zr_240_42, zr_240_46, zr_240_48, zr_240_49, zr_240_50, zr_240_51, zr_240_53, zr_240_54, zr_240_55, zr_240_56, zr_240_57, zr_240_61, zr_240_62, zr_240_63, zr_240_64, zr_240_66, zr_240_68, zr_240_70, zr_240_72]
      exact ih (r + 1) (by omega) B' I' _ _ q1 q2.to0 q3
    · rw [if_pos rfl]
      obtain ⟨sc, sn, sa, vc, vn, cnt, cod, nv, fa⟩ := B
      obtain ⟨h1, h2, h3, h6, h7⟩ := hm
      exact ⟨by simp [va_up]; exact h1, zMN_fr h2 (by simp [va_up]), fun i hi => by simp [va_up]; exact h3 i hi, by simp [va_up], fun k hk => absurd hk (Nat.not_lt_zero _), fun q hq => by simp [va_up]; exact h6 q hq, fun q hq => by simp [va_up]; exact h7 q hq⟩
set_option maxRecDepth 100000 in
set_option maxHeartbeats 4000000 in
theorem c_Md_wrongNode (hF : zTF b n T nt pa so c rd) (hM : zTM b n T nt pa so c rd I)
    (hN : ∀ k B I', k < c → zbd (fun i => znm b n (nt i)) (fun i => ziv (znm b n (nt i))) pa so k = some B → zbt (znm b n (nt k)) (ziv (znm b n (nt k))) (pa k) (so k) B = none → zfW I I' → Q (some (.int (nI k))) zE I' J (zR hp sp tp))
    (hY : ∀ B I', zbd (fun i => znm b n (nt i)) (fun i => ziv (znm b n (nt i))) pa so c = some B → zMB0 b n T B I' → zfW I I' → Q (some (.int (-1))) zE I' J (zR hp sp tp)) : cwp X 124 [.ref 240] zE I J (zR hp sp tp) Q := by
  show wp X 124 0 [some (.ref 240), none, none, none] [] zE I J (zR hp sp tp) Q
  have hz0 : znb so (2 * 0) c = 0 := by
    have : ∀ k, znb so 0 k = 0 := by
      intro k
      induction k with
      | zero => rfl
      | succ k ih => simp only [znb]; rw [ih, if_neg (Nat.not_lt_zero _)]
    exact this c
  simp (disch := first | omega | decide) only [k124_0, k124_1, k124_2, k124_5, k124_6, ↓zite, ↓reduceIte, zadd1, ↓zli_0, ↓zli_s, ↓zll_0, ↓zll_s, ↓zla_r, ↓zla_n, ↓zla_x, ↓zla_v, ↓zla_s, ↓zst_0, ↓zst_1, ↓zst_s, ↓zst2_0, ↓zst2_1, ↓zst2_s, zki_i, zki_r, zki_n, zki_x, zki_l, zki_0, zki_v, zwt_0, zwt_i, zwt_l, zwt_r, zwt_n, zwt_x, zwt_v, zrv_0, zrv_s, zca_r, zca_n, zca_i, zca_l, zca_v, true_and, and_true, and_self, true_imp_iff, false_imp_iff, imp_self, not_true_eq_false, not_false_eq_true, forall_const, Nat.reduceAdd, Nat.reduceLeDiff, z01_0, z01_1, zlt0, zge0, zu_s, zu_n, zu_d, zu_c, nI_add, nI_clamp, false_or, or_false, false_and, and_false, zlt, zle, zeq, zeq0, zgt0, zle0, zsub, zm1, zne1, zle_t, zle_f, zlt_t, zlt_f, zen_t, zen_f, Option.toList_none, Option.toList_some, List.nil_append, List.cons_append, Nat.add_sub_cancel, zf_240_0, zf_240_1, zf_240_2, zf_240_3, zf_240_4, zf_240_5, zf_240_6, zf_240_7, zf_240_8, zf_240_9, zf_240_10, zf_240_11, zf_240_12, zf_240_13, zf_240_14, zf_240_15, zf_240_16, zf_240_17, zf_240_18, zf_240_19, zf_240_20, zf_240_21, zf_240_22, zf_240_23, zf_240_24, zf_240_25, zf_240_26, zf_240_27, zf_240_28, zf_240_29, zf_240_30, zf_240_31, zf_240_32, zf_240_33, zf_240_34, zf_240_35, zf_240_36, zf_240_37, zf_240_38, zf_240_39, zf_240_40, zf_240_41, zf_240_42, zf_240_43, zf_240_44, zf_240_45, zf_240_46, zf_240_47, zf_240_48, zf_240_49, zf_240_50, zf_240_51, zf_240_52, zf_240_53, zf_240_54, zf_240_55, zf_240_56, zf_240_57, zf_240_58, zf_240_59, zf_240_60, zf_240_61, zf_240_62, zf_240_63, zf_240_64, zf_240_65, zf_240_66, zf_240_67, zf_240_68, zf_240_69, zf_240_70, zf_240_71, zf_240_72, zc_240, za_241, za_242, za_243, za_244, za_245, za_246, za_247, za_248, za_249, za_250, za_251, za_252, za_253, za_254, za_255, za_256, za_257, za_258, za_259, za_260, za_261, zan_261, za_262, zan_262, za_263, za_264, za_265, za_266, za_267, za_268, za_269, za_270, za_271, za_272, za_273, za_274, za_275, za_276, za_277, za_278, zan_278, za_279, za_280, za_281, za_282, za_283, za_284, za_285, za_286, za_287, zr_240_0, zr_240_3, zr_240_4, zr_240_5, zr_240_9, zr_240_10, zr_240_12, zr_240_13, zr_240_14, zr_240_17, zr_240_18, zr_240_19, zr_240_20, zr_240_22, zr_240_23, zr_240_24, zr_240_25, zr_240_26, zr_240_30, zr_240_31, zr_240_32, zr_240_33, zr_240_34, zr_240_35, zr_240_36, zr_240_37, zr_240_38, zr_240_41, zr_240_42, zr_240_46, zr_240_48, zr_240_49, zr_240_50, zr_240_51, zr_240_53, zr_240_54, zr_240_55, zr_240_56, zr_240_57, zr_240_61, zr_240_62, zr_240_63, zr_240_64, zr_240_66, zr_240_68, zr_240_70, zr_240_72]
  exact l_wrong hF hM hN hY rd 0 (by omega) zB0 _ _ _ (by rw [hz0]; rfl) ⟨by simp [va_up], fun k hk => absurd hk (Nat.not_lt_zero _), fun k hk => absurd hk (Nat.not_lt_zero _), fun r _ => ⟨fun h => absurd rfl h, fun p hp => absurd hp (Nat.not_lt_zero _)⟩, fun r _ => ⟨fun h => absurd rfl h, fun p hp => absurd hp (Nat.not_lt_zero _)⟩⟩ (zfW.rf.u0 (by decide))
end MN
