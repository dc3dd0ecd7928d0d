/-! the model's reading of rules -/
/-- how many of the first c nodes are in a side before v -/
def znb (so : Nat → Nat) (v : Nat) : Nat → Nat
  | 0 => 0
  | c + 1 => znb so v c + (if so c < v then 1 else 0)
theorem znb_le {so : Nat → Nat} {v : Nat} : ∀ c, znb so v c ≤ c := by
  intro c
  induction c with
  | zero => exact Nat.le_refl _
  | succ c ih => simp only [znb]; split <;> omega
theorem znb_all {so : Nat → Nat} {v : Nat} : ∀ c, (∀ i, i < c → so i < v) → znb so v c = c := by
  intro c
  induction c with
  | zero => intro _; rfl
  | succ c ih => intro h; simp only [znb]; rw [ih (fun i hi => h i (by omega)), if_pos (h c (by omega))]
theorem znb_ext {so so' : Nat → Nat} {v c : Nat} : ∀ c', c ≤ c' → (∀ i, i < c → so' i = so i) → (∀ i, c ≤ i → i < c' → v ≤ so' i) → znb so' v c' = znb so v c := by
  intro c'
  induction c' with
  | zero => intro h _ _; have : c = 0 := by omega
            subst this; rfl
  | succ c' ih =>
    intro h h1 h2
    by_cases hc : c = c' + 1
    · subst hc
      have : ∀ k, k ≤ c' + 1 → znb so' v k = znb so v k := by
        intro k
        induction k with
        | zero => intro _; rfl
        | succ k ihk => intro hk; simp only [znb]; rw [ihk (by omega), h1 k (by omega)]
      exact this _ (Nat.le_refl _)
    · simp only [znb]
      rw [ih (by omega) h1 (fun i a b => h2 i a (by omega)), if_neg (by have := h2 c' (by omega) (by omega); omega)]
      rfl
/-- a later reading: the nodes that were there are there, the new ones are in later sides -/
def zlat (s s' : tP) : Prop := s.2.2.2.1 ≤ s'.2.2.2.1 ∧ s.2.2.1 ≤ s'.2.2.1 ∧ (∀ i, i < s.2.2.2.1 → s'.2.2.2.2.2.2.2 i = s.2.2.2.2.2.2.2 i ∧ s'.2.2.2.2.2.2.1 i = s.2.2.2.2.2.2.1 i) ∧ (∀ i, s.2.2.2.1 ≤ i → i < s'.2.2.2.1 → s.2.2.1 ≤ s'.2.2.2.2.2.2.2 i)
theorem zlat_rf {s : tP} : zlat s s := ⟨Nat.le_refl _, Nat.le_refl _, fun _ _ => ⟨rfl, rfl⟩, fun i h1 h2 => by omega⟩
theorem zlat_tr {s s1 s2 : tP} (h : zlat s s1) (g : zlat s1 s2) : zlat s s2 := by
  obtain ⟨h1, h2, h3, h4⟩ := h
  obtain ⟨g1, g2, g3, g4⟩ := g
  refine ⟨by omega, by omega, fun i hi => ⟨((g3 i (by omega)).1).trans (h3 i hi).1, ((g3 i (by omega)).2).trans (h3 i hi).2⟩, fun i a b => ?_⟩
  by_cases hi : i < s1.2.2.2.1
  · rw [(g3 i hi).1]; exact h4 i a hi
  · have := g4 i (by omega) b; omega
theorem zlat_st {K t j : Nat} {s s' : tP} (h : zps K t j s = some s') : zlat s s' := by
  obtain ⟨st, d, sd, c, op, pa, nt, so⟩ := s
  simp only [zps] at h
  (repeat' (split at h)) <;> first
    | (cases h; done)
    | (cases h; exact ⟨Nat.le_refl _, Nat.le_refl _, fun _ _ => ⟨rfl, rfl⟩, fun i h1 h2 => by dsimp only at h1 h2; omega⟩)
    | (cases h; exact ⟨Nat.le_refl _, Nat.le_succ _, fun _ _ => ⟨rfl, rfl⟩, fun i h1 h2 => by dsimp only at h1 h2; omega⟩)
    | (cases h
       refine ⟨Nat.le_succ _, Nat.le_refl _, fun i hi => ?_, fun i h1 h2 => ?_⟩
       · dsimp only at hi ⊢
         have : ¬ i = c := by omega
         simp [va_up, this]
       · dsimp only at h1 h2 ⊢
         have : i = c := by omega
         simp [va_up, this])
theorem zpr_lat {K : Nat} {b : Nat → Nat} {n : Nat} {j : Nat} {s : tP} (hs : zpr K b n j = some s) : ∀ k s', zpr K b n (j + k) = some s' → zlat s s' := by
  intro k
  induction k with
  | zero => intro s' h; rw [Nat.add_zero, hs] at h; cases h; exact zlat_rf
  | succ k ih =>
    intro s' h
    have h' : zpr K b n ((j + k) + 1) = some s' := h
    simp only [zpr] at h'
    split at h'
    · cases h'
    · rename_i s1 h1
      exact zlat_tr (ih s1 h1) (zlat_st h')
theorem zpr_later {K : Nat} {b : Nat → Nat} {n j j' : Nat} {s s' : tP} (hs : zpr K b n j = some s) (hs' : zpr K b n j' = some s') (h : j ≤ j') : zlat s s' := zpr_lat hs (j' - j) s' (by rw [show j + (j' - j) = j' by omega]; exact hs')
/-- where a rule may begin, all nodes are in sides before -/
theorem zpr_st0 {b : Nat → Nat} {n : Nat} : ∀ j s, zpr 0 b n j = some s → s.1 = 0 → (∀ i, i < s.2.2.2.1 → s.2.2.2.2.2.2.2 i < s.2.2.1) ∧ s.2.1 = 0 ∧ s.2.2.1 % 2 = 0 := by
  intro j
  cases j with
  | zero => intro s h _; cases h; exact ⟨fun i hi => by simp [zP0] at hi, rfl, rfl⟩
  | succ j =>
    intro s h h0
    simp only [zpr] at h
    split at h
    · cases h
    · rename_i s0 hs0
      have hw := (zpr_wf j s0 hs0).1
      obtain ⟨st, d, sd, c, op, pa, nt, so⟩ := s0
      obtain ⟨w1, w2, w3, w4, w5, w6, w7⟩ := hw
      simp only [zps] at h
      (repeat' (split at h)) <;> first
        | (cases h; done)
        | (cases h; dsimp only at h0; omega)
        | (cases h; dsimp only at h0; split at h0 <;> omega)
        | (rename_i hq; cases h; exact ⟨fun i hi => by have := (w7 i hi).2.2; dsimp only at this ⊢; omega, hq.2.2.1, by dsimp only; omega⟩)
/-- what a step of the reading is -/
theorem zps_inv {K t j st d sd c : Nat} {op pa nt so : Nat → Nat} {s' : tP} (h : zps K t j (st, d, sd, c, op, pa, nt, so) = some s') :
    ((t = 1 ∨ t = 2) ∧ (st = 1 ∨ st = 0) ∧ d < 60 ∧ s' = (if t = 2 then 3 else 2, d, sd, c + 1, op, (if 0 < d then va_up (va_up pa c 0) (op (d - 1)) (va_up pa c 0 (op (d - 1)) + 1) else va_up pa c 0), va_up nt c j, va_up so c sd))
    ∨ (t = 3 ∧ st = 2 ∧ d < 60 ∧ s' = (1, d + 1, sd, c, va_up op d (c - 1), pa, nt, so))
    ∨ (t = 4 ∧ 0 < d ∧ (st = 2 ∨ st = 3) ∧ s' = (3, d - 1, sd, c, op, pa, nt, so))
    ∨ (t = 5 ∧ 0 < d ∧ (st = 2 ∨ st = 3) ∧ s' = (1, d, sd, c, op, pa, nt, so))
    ∨ (t = 6 ∧ zmeq K sd = true ∧ d = 0 ∧ (st = 2 ∨ st = 3) ∧ s' = (1, d, sd + 1, c, op, pa, nt, so))
    ∨ (t = 7 ∧ K = 0 ∧ sd % 2 = 1 ∧ d = 0 ∧ (st = 2 ∨ st = 3) ∧ s' = (0, d, sd + 1, c, op, pa, nt, so)) := by
  have hb : zbeh st = true → st = 2 ∨ st = 3 := fun q => of_decide_eq_true q
  by_cases h12 : t = 1 ∨ t = 2
  · rw [zps_n h12] at h
    by_cases hq : (st = 1 ∨ st = 0) ∧ d < 60
    · rw [if_pos hq] at h; cases h; exact Or.inl ⟨h12, hq.1, hq.2, rfl⟩
    · rw [if_neg hq] at h; cases h
  · by_cases h3 : t = 3
    · subst h3; rw [zps_3] at h
      by_cases hq : st = 2 ∧ d < 60
      · rw [if_pos hq] at h; cases h; exact Or.inr (Or.inl ⟨rfl, hq.1, hq.2, rfl⟩)
      · rw [if_neg hq] at h; cases h
    · by_cases h4 : t = 4
      · subst h4; rw [zps_4] at h
        by_cases hq : 0 < d ∧ zbeh st
        · rw [if_pos hq] at h; cases h; exact Or.inr (Or.inr (Or.inl ⟨rfl, hq.1, hb hq.2, rfl⟩))
        · rw [if_neg hq] at h; cases h
      · by_cases h5 : t = 5
        · subst h5; rw [zps_5] at h
          by_cases hq : 0 < d ∧ zbeh st
          · rw [if_pos hq] at h; cases h; exact Or.inr (Or.inr (Or.inr (Or.inl ⟨rfl, hq.1, hb hq.2, rfl⟩)))
          · rw [if_neg hq] at h; cases h
        · by_cases h6 : t = 6
          · subst h6; rw [zps_6] at h
            by_cases hq : zmeq K sd ∧ d = 0 ∧ zbeh st
            · rw [if_pos hq] at h; cases h; exact Or.inr (Or.inr (Or.inr (Or.inr (Or.inl ⟨rfl, hq.1, hq.2.1, hb hq.2.2, rfl⟩))))
            · rw [if_neg hq] at h; cases h
          · by_cases h7 : t = 7
            · subst h7; rw [zps_7] at h
              by_cases hq : K = 0 ∧ sd % 2 = 1 ∧ d = 0 ∧ zbeh st
              · rw [if_pos hq] at h; cases h; exact Or.inr (Or.inr (Or.inr (Or.inr (Or.inr ⟨rfl, hq.1, hq.2.1, hq.2.2.1, hb hq.2.2.2, rfl⟩))))
              · rw [if_neg hq] at h; cases h
            · simp only [zps] at h
              rw [if_neg h12, if_neg h3, if_neg h4, if_neg h5, if_neg h6, if_neg h7] at h
              cases h
/-- a side has a node -/
theorem zpr_sd {K : Nat} {b : Nat → Nat} {n : Nat} : ∀ j s, zpr K b n j = some s → if s.1 < 2 then s.2.2.1 ≤ s.2.2.2.1 else s.2.2.1 + 1 ≤ s.2.2.2.1 := by
  intro j
  induction j with
  | zero => intro s h; cases h; simp only [zP0]; split <;> simp
  | succ j ih =>
    intro s h
    simp only [zpr] at h
    split at h
    · cases h
    · rename_i s0 hs0
      have i := ih s0 hs0
      obtain ⟨st, d, sd, c, op, pa, nt, so⟩ := s0
      dsimp only at i
      rcases zps_inv h with ⟨_, q, _, e⟩ | ⟨_, q, _, e⟩ | ⟨_, _, q, e⟩ | ⟨_, _, q, e⟩ | ⟨_, _, _, q, e⟩ | ⟨_, _, _, _, q, e⟩ <;> subst e <;> dsimp only
      · rw [if_neg (by split <;> omega)]; rw [if_pos (by omega)] at i; omega
      · rw [if_pos (by omega)]; rw [if_neg (by omega)] at i; omega
      · rw [if_neg (by omega)]; rw [if_neg (by omega)] at i; omega
      · rw [if_pos (by omega)]; rw [if_neg (by omega)] at i; omega
      · rw [if_pos (by omega)]; rw [if_neg (by omega)] at i; omega
      · rw [if_pos (by omega)]; rw [if_neg (by omega)] at i; omega
/-- the model's places of the sides -/
def zFO (so : Nat → Nat) (c rd : Nat) (I : tI) : Prop := ∀ r, r < rd → I 248 r = nI (znb so (2 * r) c) ∧ I 249 r = nI (znb so (2 * r + 1) c)
section RR
variable {X : tX} {Q : tQ} {hp sp tp : Nat} {J : tJ} {n T : Nat} {b : Nat → Nat}
def zfR (I I' : tI) : Prop := (∀ o, o ≠ 240 → o ≠ 245 → o ≠ 246 → o ≠ 247 → o ≠ 248 → o ≠ 249 → I' o = I o) ∧ (∀ k, k ≠ 7 → k ≠ 8 → k ≠ 11 → k ≠ 15 → I' 240 k = I 240 k)
set_option maxRecDepth 100000 in
set_option maxHeartbeats 4000000 in
theorem l_readRules (hn : n ≤ 4000) (hT : zTT b n T) : ∀ (F j : Nat) (s : tP) (I : tI) (rd : Nat), T - j < F → zpr 0 b n j = some s → s.1 = 0 → s.2.2.1 = 2 * rd → zMP j s s.2.2.2.2.2.1 I → zTK b n T I → I 240 15 = nI rd → zFO s.2.2.2.2.2.2.2 s.2.2.2.1 rd I →
    (∀ j s I' rd, zrd 0 b n j s → zgood 0 b n j s = true → s.1 = 0 → s.2.2.1 = 2 * rd → zMP j s s.2.2.2.2.2.1 I' → zTK b n T I' → I' 240 15 = nI rd → zFO s.2.2.2.2.2.2.2 s.2.2.2.1 rd I' → I' 248 rd = nI s.2.2.2.1 → zfR I I' → Q (some (.int (nI 1))) zE I' J (zR hp sp tp)) →
    (∀ j s I', zrd 0 b n j s → zgood 0 b n j s = false → I' 240 8 = nI (zt b n j).2.1 → zfR I I' → Q (some (.int (nI 0))) zE I' J (zR hp sp tp)) →
    wp X 120 5 [some (.ref 240)] [] zE I J (zR hp sp tp) Q := by
  intro F
  induction F with
  | zero => intro j s I rd h; omega
  | succ F ih =>
    intro j s I rd hF hs h0 hsd hm hk h15 hfo hY hN
    obtain ⟨hw, hjp⟩ := zpr_wf j s hs
    obtain ⟨hso, hd0, _⟩ := zpr_st0 j s hs h0
    have hpn := zpos_le (b := b) (n := n) j
    have hjT := zpr_T hT hs
    have h9 := zt_lt9 b n j
    have hTn := hT.2.2
    have hrd : 2 * rd ≤ zpos b n j := by rw [← hsd]; exact hw.2.2.1
    have hcn : 2 * s.2.2.2.1 ≤ zpos b n j + 1 := by have := hw.2.2.2.1; split at this <;> omega
    obtain ⟨m1, m2, m3, m4⟩ := id hm
    have tk := (hk j hjT).1
    rw [k120_5]
    have hsdc := zpr_sd j s hs
    rw [if_pos (by omega)] at hsdc
    have hc2 : 2 * s.2.2.2.1 ≤ zpos b n j := by have := hw.2.2.2.1; rw [if_pos (by omega)] at this; exact this
    by_cases ht0 : (zt b n j).1 = 0
    · have hz : zps 0 (zt b n j).1 j s = none := by
        cases h : zps 0 (zt b n j).1 j s with
        | none => rfl
        | some s' => exact absurd ht0 (zps_08 h).1
      simp (disch := first | omega | decide) only [k120_6, k120_9, k120_10, k120_13, k120_14, k120_17, k120_18, k120_21, k120_22, k120_25, k120_26, k120_29, k120_30, k120_31, k120_34, k120_37, k120_38, k120_40, k120_43, k120_46, k120_47_0, k120_47_1, k120_48, k120_49, k120_52, k120_53, k120_56, k120_57, k120_60, k120_61, k120_62, k120_65, k120_68, k120_69, k120_71, k120_74, k120_77, k120_78_0, k120_78_1, k120_79, k120_80, k120_81, k120_84, k120_85, k120_86, k120_89, k120_92, k120_93, k120_96, k120_97, k120_100, k120_101, k120_104, k120_105, k120_106_0, k120_106_1, ↓zite, ↓reduceIte, zadd1, ↓zli_0, ↓zli_s, ↓zll_0, ↓zll_s, ↓zla_r, ↓zla_n, ↓zla_x, ↓zla_v, ↓zla_s, ↓zst_0, ↓zst_1, ↓zst_s, ↓zst2_0, ↓zst2_1, ↓zst2_s, zki_i, zki_r, zki_n, zki_x, zki_l, zki_0, zki_v, zwt_0, zwt_i, zwt_l, zwt_r, zwt_n, zwt_x, zwt_v, zrv_0, zrv_s, zca_r, zca_n, zca_i, zca_l, zca_v, true_and, and_true, and_self, true_imp_iff, false_imp_iff, imp_self, not_true_eq_false, not_false_eq_true, forall_const, Nat.reduceAdd, Nat.reduceLeDiff, z01_0, z01_1, zlt0, zge0, zu_s, zu_n, zu_d, zu_c, nI_add, nI_clamp, false_or, or_false, false_and, and_false, zlt, zle, zeq, zeq0, zgt0, zle0, zsub, zm1, zne1, zle_t, zle_f, zlt_t, zlt_f, zen_t, zen_f, Option.toList_none, Option.toList_some, List.nil_append, List.cons_append, Nat.add_sub_cancel, zf_240_0, zf_240_1, zf_240_2, zf_240_3, zf_240_4, zf_240_5, zf_240_6, zf_240_7, zf_240_8, zf_240_9, zf_240_10, zf_240_11, zf_240_12, zf_240_13, zf_240_14, zf_240_15, zf_240_16, zf_240_17, zf_240_18, zf_240_19, zf_240_20, zf_240_21, zf_240_22, zf_240_23, zf_240_24, zf_240_25, zf_240_26, zf_240_27, zf_240_28, zf_240_29, zf_240_30, zf_240_31, zf_240_32, zf_240_33, zf_240_34, zf_240_35, zf_240_36, zf_240_37, zf_240_38, zf_240_39, zf_240_40, zf_240_41, zf_240_42, zf_240_43, zf_240_44, zf_240_45, zf_240_46, zf_240_47, zf_240_48, zf_240_49, zf_240_50, zf_240_51, zf_240_52, zf_240_53, zf_240_54, zf_240_55, zf_240_56, zf_240_57, zf_240_58, zf_240_59, zf_240_60, zf_240_61, zf_240_62, zf_240_63, zf_240_64, zf_240_65, zf_240_66, zf_240_67, zf_240_68, zf_240_69, zf_240_70, zf_240_71, zf_240_72, zc_240, za_241, za_242, za_243, za_244, za_245, za_246, za_247, za_248, za_249, za_250, za_251, za_252, za_253, za_254, za_255, za_256, za_257, za_258, za_259, za_260, za_261, zan_261, za_262, zan_262, za_263, za_264, za_265, za_266, za_267, za_268, za_269, za_270, za_271, za_272, za_273, za_274, za_275, za_276, za_277, za_278, zan_278, za_279, za_280, za_281, za_282, za_283, za_284, za_285, za_286, za_287, zr_240_0, zr_240_3, zr_240_4, zr_240_5, zr_240_9, zr_240_10, zr_240_12, zr_240_13, zr_240_14, zr_240_17, zr_240_18, zr_240_19, zr_240_20, zr_240_22, zr_240_23, zr_240_24, zr_240_25, zr_240_26, zr_240_30, zr_240_31, zr_240_32, zr_240_33, zr_240_34, zr_240_35, zr_240_36, zr_240_37, zr_240_38, zr_240_41, zr_240_42, zr_240_46, zr_240_48, zr_240_49, zr_240_50, zr_240_51, zr_240_53, zr_240_54, zr_240_55, zr_240_56, zr_240_57, zr_240_61, zr_240_62, zr_240_63, zr_240_64, zr_240_66, zr_240_68, zr_240_70, zr_240_72, m1, m2, tk, h15]
      refine hY j s _ rd ⟨hs, hz⟩ (by simp [zgood, ht0, zmend, h0]) h0 hsd ⟨by simp [va_up]; exact m1, by simp [va_up]; exact m2, fun i hi => by simp [va_up]; exact m3 i hi, fun i hi => by simp [va_up]; exact m4 i hi⟩ (fun i hi => by simp [va_up]; exact hk i hi) (by simp [va_up]; exact h15) (fun r hr => ?_) (by simp [va_up]) ⟨fun o h1 h2 h3 h4 h5 h6 => by simp [va_up, h5], fun k _ _ _ _ => by simp [va_up]⟩
      have : ¬ r = rd := by omega
      simp [va_up, this]; exact hfo r hr
    · simp (disch := first | omega | decide) only [k120_6, k120_9, k120_10, k120_13, k120_14, k120_17, k120_18, k120_21, k120_22, k120_25, k120_26, k120_29, k120_30, k120_31, k120_34, k120_37, k120_38, k120_40, k120_43, k120_46, k120_47_0, k120_47_1, k120_48, k120_49, k120_52, k120_53, k120_56, k120_57, k120_60, k120_61, k120_62, k120_65, k120_68, k120_69, k120_71, k120_74, k120_77, k120_78_0, k120_78_1, k120_79, k120_80, k120_81, k120_84, k120_85, k120_86, k120_89, k120_92, k120_93, k120_96, k120_97, k120_100, k120_101, k120_104, k120_105, k120_106_0, k120_106_1, ↓zite, ↓reduceIte, zadd1, ↓zli_0, ↓zli_s, ↓zll_0, ↓zll_s, ↓zla_r, ↓zla_n, ↓zla_x, ↓zla_v, ↓zla_s, ↓zst_0, ↓zst_1, ↓zst_s, ↓zst2_0, ↓zst2_1, ↓zst2_s, zki_i, zki_r, zki_n, zki_x, zki_l, zki_0, zki_v, zwt_0, zwt_i, zwt_l, zwt_r, zwt_n, zwt_x, zwt_v, zrv_0, zrv_s, zca_r, zca_n, zca_i, zca_l, zca_v, true_and, and_true, and_self, true_imp_iff, false_imp_iff, imp_self, not_true_eq_false, not_false_eq_true, forall_const, Nat.reduceAdd, Nat.reduceLeDiff, z01_0, z01_1, zlt0, zge0, zu_s, zu_n, zu_d, zu_c, nI_add, nI_clamp, false_or, or_false, false_and, and_false, zlt, zle, zeq, zeq0, zgt0, zle0, zsub, zm1, zne1, zle_t, zle_f, zlt_t, zlt_f, zen_t, zen_f, Option.toList_none, Option.toList_some, List.nil_append, List.cons_append, Nat.add_sub_cancel, zf_240_0, zf_240_1, zf_240_2, zf_240_3, zf_240_4, zf_240_5, zf_240_6, zf_240_7, zf_240_8, zf_240_9, zf_240_10, zf_240_11, zf_240_12, zf_240_13, zf_240_14, zf_240_15, zf_240_16, zf_240_17, zf_240_18, zf_240_19, zf_240_20, zf_240_21, zf_240_22, zf_240_23, zf_240_24, zf_240_25, zf_240_26, zf_240_27, zf_240_28, zf_240_29, zf_240_30, zf_240_31, zf_240_32, zf_240_33, zf_240_34, zf_240_35, zf_240_36, zf_240_37, zf_240_38, zf_240_39, zf_240_40, zf_240_41, zf_240_42, zf_240_43, zf_240_44, zf_240_45, zf_240_46, zf_240_47, zf_240_48, zf_240_49, zf_240_50, zf_240_51, zf_240_52, zf_240_53, zf_240_54, zf_240_55, zf_240_56, zf_240_57, zf_240_58, zf_240_59, zf_240_60, zf_240_61, zf_240_62, zf_240_63, zf_240_64, zf_240_65, zf_240_66, zf_240_67, zf_240_68, zf_240_69, zf_240_70, zf_240_71, zf_240_72, zc_240, za_241, za_242, za_243, za_244, za_245, za_246, za_247, za_248, za_249, za_250, za_251, za_252, za_253, za_254, za_255, za_256, za_257, za_258, za_259, za_260, za_261, zan_261, za_262, zan_262, za_263, za_264, za_265, za_266, za_267, za_268, za_269, za_270, za_271, za_272, za_273, za_274, za_275, za_276, za_277, za_278, zan_278, za_279, za_280, za_281, za_282, za_283, za_284, za_285, za_286, za_287, zr_240_0, zr_240_3, zr_240_4, zr_240_5, zr_240_9, zr_240_10, zr_240_12, zr_240_13, zr_240_14, zr_240_17, zr_240_18, zr_240_19, zr_240_20, zr_240_22, zr_240_23, zr_240_24, zr_240_25, zr_240_26, zr_240_30, zr_240_31, zr_240_32, zr_240_33, zr_240_34, zr_240_35, zr_240_36, zr_240_37, zr_240_38, zr_240_41, zr_240_42, zr_240_46, zr_240_48, zr_240_49, zr_240_50, zr_240_51, zr_240_53, zr_240_54, zr_240_55, zr_240_56, zr_240_57, zr_240_61, zr_240_62, zr_240_63, zr_240_64, zr_240_66, zr_240_68, zr_240_70, zr_240_72, m1, m2, tk, h15]
      have hfr0 : zfR I (va_up I 248 (va_up (I 248) rd (nI s.2.2.2.1))) := ⟨fun o h1 h2 h3 h4 h5 h6 => by simp [va_up, h5], fun k _ _ _ _ => by simp [va_up]⟩
      refine c_Md_readTerm (j := j) (s := s) hn hT hs (by omega) hd0 (fun _ => ht0) ⟨by simp [va_up]; exact m1, by simp [va_up]; exact m2, fun i hi => by simp [va_up]; exact m3 i hi, fun i hi => by simp [va_up]; exact m4 i hi⟩ (fun i hi => by simp [va_up]; exact hk i hi) (fun j1 s1 I2 e1 e0 e2 e3 e4 e5 e6 e7 => ?_) (fun j' s' I' e1 e2 e3 e4 => ?_)
      · have hk2 : zTK b n T I2 := zTK.fr (I := va_up I 248 (va_up (I 248) rd (nI s.2.2.2.1))) (fun i hi => by simp [va_up]; exact hk i hi) e7
        have hj1T := zpr_T hT e1
        have hw1 := (zpr_wf j1 s1 e1).1
        have hpn1 := zpos_le (b := b) (n := n) j1
        have h15' : I2 240 15 = nI rd := (e7.2 15 (by decide) (by decide) (by decide)).trans (by simp [va_up]; exact h15)
        have hl1 := zpr_later hs e1 e0
        have hbe1 : s1.1 = 2 ∨ s1.1 = 3 := of_decide_eq_true e3
        obtain ⟨st1, d1, sd1, c1, op1, pa1, nt1, so1⟩ := s1
        dsimp only at e2 e3 e4 e5 hbe1
        have hsd1 : sd1 = 2 * rd := e4.trans hsd
        subst hsd1
        subst e2
        simp (disch := first | omega | decide) only [k120_34, k120_37, k120_38, k120_40, k120_46, k120_47_0, k120_47_1, ↓zite, ↓reduceIte, zadd1, ↓zli_0, ↓zli_s, ↓zll_0, ↓zll_s, ↓zla_r, ↓zla_n, ↓zla_x, ↓zla_v, ↓zla_s, ↓zst_0, ↓zst_1, ↓zst_s, ↓zst2_0, ↓zst2_1, ↓zst2_s, zki_i, zki_r, zki_n, zki_x, zki_l, zki_0, zki_v, zwt_0, zwt_i, zwt_l, zwt_r, zwt_n, zwt_x, zwt_v, zrv_0, zrv_s, zca_r, zca_n, zca_i, zca_l, zca_v, true_and, and_true, and_self, true_imp_iff, false_imp_iff, imp_self, not_true_eq_false, not_false_eq_true, forall_const, Nat.reduceAdd, Nat.reduceLeDiff, z01_0, z01_1, zlt0, zge0, zu_s, zu_n, zu_d, zu_c, nI_add, nI_clamp, false_or, or_false, false_and, and_false, zlt, zle, zeq, zeq0, zgt0, zle0, zsub, zm1, zne1, zle_t, zle_f, zlt_t, zlt_f, zen_t, zen_f, Option.toList_none, Option.toList_some, List.nil_append, List.cons_append, Nat.add_sub_cancel, zf_240_0, zf_240_1, zf_240_2, zf_240_3, zf_240_4, zf_240_5, zf_240_6, zf_240_7, zf_240_8, zf_240_9, zf_240_10, zf_240_11, zf_240_12, zf_240_13, zf_240_14, zf_240_15, zf_240_16, zf_240_17, zf_240_18, zf_240_19, zf_240_20, zf_240_21, zf_240_22, zf_240_23, zf_240_24, zf_240_25, zf_240_26, zf_240_27, zf_240_28, zf_240_29, zf_240_30, zf_240_31, zf_240_32, zf_240_33, zf_240_34, zf_240_35, zf_240_36, zf_240_37, zf_240_38, zf_240_39, zf_240_40, zf_240_41, zf_240_42, zf_240_43, zf_240_44, zf_240_45, zf_240_46, zf_240_47, zf_240_48, zf_240_49, zf_240_50, zf_240_51, zf_240_52, zf_240_53, zf_240_54, zf_240_55, zf_240_56, zf_240_57, zf_240_58, zf_240_59, zf_240_60, zf_240_61, zf_240_62, zf_240_63, zf_240_64, zf_240_65, zf_240_66, zf_240_67, zf_240_68, zf_240_69, zf_240_70, zf_240_71, zf_240_72, zc_240, za_241, za_242, za_243, za_244, za_245, za_246, za_247, za_248, za_249, za_250, za_251, za_252, za_253, za_254, za_255, za_256, za_257, za_258, za_259, za_260, za_261, zan_261, za_262, zan_262, za_263, za_264, za_265, za_266, za_267, za_268, za_269, za_270, za_271, za_272, za_273, za_274, za_275, za_276, za_277, za_278, zan_278, za_279, za_280, za_281, za_282, za_283, za_284, za_285, za_286, za_287, zr_240_0, zr_240_3, zr_240_4, zr_240_5, zr_240_9, zr_240_10, zr_240_12, zr_240_13, zr_240_14, zr_240_17, zr_240_18, zr_240_19, zr_240_20, zr_240_22, zr_240_23, zr_240_24, zr_240_25, zr_240_26, zr_240_30, zr_240_31, zr_240_32, zr_240_33, zr_240_34, zr_240_35, zr_240_36, zr_240_37, zr_240_38, zr_240_41, zr_240_42, zr_240_46, zr_240_48, zr_240_49, zr_240_50, zr_240_51, zr_240_53, zr_240_54, zr_240_55, zr_240_56, zr_240_57, zr_240_61, zr_240_62, zr_240_63, zr_240_64, zr_240_66, zr_240_68, zr_240_70, zr_240_72]
        refine c_Md_takes hn hTn hj1T hk2 e6.1 (by decide) ?_
        by_cases ht6 : (zt b n j1).1 = 6
        · rw [if_pos ht6]
          have hs2 : zpr 0 b n (j1 + 1) = some (1, 0, 2 * rd + 1, c1, op1, pa1, nt1, so1) := by
            simp only [zpr, e1, ht6]; rw [zps_6, if_pos ⟨by simp [zmeq], rfl, e3⟩]
          obtain ⟨n1, n2, n3, n4⟩ := id e6
          dsimp only at n1 n2 n3 n4
          have hw2 := (zpr_wf (j1 + 1) _ hs2).1
          have hpn2 := zpos_le (b := b) (n := n) (j1 + 1)
          simp (disch := first | omega | decide) only [k120_43, k120_46, k120_47_0, k120_47_1, k120_48, k120_49, k120_52, k120_53, k120_56, k120_57, k120_60, k120_61, k120_62, ↓zite, ↓reduceIte, zadd1, ↓zli_0, ↓zli_s, ↓zll_0, ↓zll_s, ↓zla_r, ↓zla_n, ↓zla_x, ↓zla_v, ↓zla_s, ↓zst_0, ↓zst_1, ↓zst_s, ↓zst2_0, ↓zst2_1, ↓zst2_s, zki_i, zki_r, zki_n, zki_x, zki_l, zki_0, zki_v, zwt_0, zwt_i, zwt_l, zwt_r, zwt_n, zwt_x, zwt_v, zrv_0, zrv_s, zca_r, zca_n, zca_i, zca_l, zca_v, true_and, and_true, and_self, true_imp_iff, false_imp_iff, imp_self, not_true_eq_false, not_false_eq_true, forall_const, Nat.reduceAdd, Nat.reduceLeDiff, z01_0, z01_1, zlt0, zge0, zu_s, zu_n, zu_d, zu_c, nI_add, nI_clamp, false_or, or_false, false_and, and_false, zlt, zle, zeq, zeq0, zgt0, zle0, zsub, zm1, zne1, zle_t, zle_f, zlt_t, zlt_f, zen_t, zen_f, Option.toList_none, Option.toList_some, List.nil_append, List.cons_append, Nat.add_sub_cancel, zf_240_0, zf_240_1, zf_240_2, zf_240_3, zf_240_4, zf_240_5, zf_240_6, zf_240_7, zf_240_8, zf_240_9, zf_240_10, zf_240_11, zf_240_12, zf_240_13, zf_240_14, zf_240_15, zf_240_16, zf_240_17, zf_240_18, zf_240_19, zf_240_20, zf_240_21, zf_240_22, zf_240_23, zf_240_24, zf_240_25, zf_240_26, zf_240_27, zf_240_28, zf_240_29, zf_240_30, zf_240_31, zf_240_32, zf_240_33, zf_240_34, zf_240_35, zf_240_36, zf_240_37, zf_240_38, zf_240_39, zf_240_40, zf_240_41, zf_240_42, zf_240_43, zf_240_44, zf_240_45, zf_240_46, zf_240_47, zf_240_48, zf_240_49, zf_240_50, zf_240_51, zf_240_52, zf_240_53, zf_240_54, zf_240_55, zf_240_56, zf_240_57, zf_240_58, zf_240_59, zf_240_60, zf_240_61, zf_240_62, zf_240_63, zf_240_64, zf_240_65, zf_240_66, zf_240_67, zf_240_68, zf_240_69, zf_240_70, zf_240_71, zf_240_72, zc_240, za_241, za_242, za_243, za_244, za_245, za_246, za_247, za_248, za_249, za_250, za_251, za_252, za_253, za_254, za_255, za_256, za_257, za_258, za_259, za_260, za_261, zan_261, za_262, zan_262, za_263, za_264, za_265, za_266, za_267, za_268, za_269, za_270, za_271, za_272, za_273, za_274, za_275, za_276, za_277, za_278, zan_278, za_279, za_280, za_281, za_282, za_283, za_284, za_285, za_286, za_287, zr_240_0, zr_240_3, zr_240_4, zr_240_5, zr_240_9, zr_240_10, zr_240_12, zr_240_13, zr_240_14, zr_240_17, zr_240_18, zr_240_19, zr_240_20, zr_240_22, zr_240_23, zr_240_24, zr_240_25, zr_240_26, zr_240_30, zr_240_31, zr_240_32, zr_240_33, zr_240_34, zr_240_35, zr_240_36, zr_240_37, zr_240_38, zr_240_41, zr_240_42, zr_240_46, zr_240_48, zr_240_49, zr_240_50, zr_240_51, zr_240_53, zr_240_54, zr_240_55, zr_240_56, zr_240_57, zr_240_61, zr_240_62, zr_240_63, zr_240_64, zr_240_66, zr_240_68, zr_240_70, zr_240_72, n2, h15']
          have hfr2 : zfR I (va_up (va_up I2 240 (va_up (I2 240) 7 (nI (j1 + 1)))) 249 (va_up (I2 249) rd (nI c1))) := ⟨fun o h1 h2 h3 h4 h5 h6 => by simp [va_up, h1, h6]; exact (e7.1 o h1 h2 h3 h4).trans (hfr0.1 o h1 h2 h3 h4 h5 h6), fun k h1 h2 h3 h4 => by simp [va_up, h1]; exact (e7.2 k h1 h2 h3).trans (hfr0.2 k h1 h2 h3 h4)⟩
          have hk3 : zTK b n T (va_up (va_up I2 240 (va_up (I2 240) 7 (nI (j1 + 1)))) 249 (va_up (I2 249) rd (nI c1))) := fun i hi => by simp [va_up]; exact hk2 i hi
          refine c_Md_readTerm (j := j1 + 1) (s := (1, 0, 2 * rd + 1, c1, op1, pa1, nt1, so1)) hn hT hs2 (show 1 < 2 by decide) rfl (fun h => by cases h) ⟨by simp [va_up], by simp [va_up]; exact n2, fun i hi => by simp [va_up]; exact n3 i hi, fun i hi => by simp [va_up]; exact n4 i hi⟩ hk3 (fun j2 s2 I3 f1 f0 f2 f3 f4 f5 f6 f7 => ?_) (fun j' s' I' f1 f2 f3 f4 => ?_)
          · have hk4 : zTK b n T I3 := hk3.fr f7
            have hj2T := zpr_T hT f1
            have hl2 := zpr_later hs2 f1 f0
            have hl3 := zpr_later hs f1 (by omega)
            have hbe2 : s2.1 = 2 ∨ s2.1 = 3 := of_decide_eq_true f3
            obtain ⟨st2, d2, sd2, c2, op2, pa2, nt2, so2⟩ := s2
            dsimp only at f2 f3 f4 f5 hbe2
            subst f4
            subst f2
            obtain ⟨o1, o2, o3, o4⟩ := id f6
            dsimp only at o1 o2 o3 o4
            have h15'' : I3 240 15 = nI rd := (f7.2 15 (by decide) (by decide) (by decide)).trans (by simp [va_up]; exact h15')
            simp (disch := first | omega | decide) only [k120_65, k120_68, k120_69, k120_71, k120_77, k120_78_0, k120_78_1, ↓zite, ↓reduceIte, zadd1, ↓zli_0, ↓zli_s, ↓zll_0, ↓zll_s, ↓zla_r, ↓zla_n, ↓zla_x, ↓zla_v, ↓zla_s, ↓zst_0, ↓zst_1, ↓zst_s, ↓zst2_0, ↓zst2_1, ↓zst2_s, zki_i, zki_r, zki_n, zki_x, zki_l, zki_0, zki_v, zwt_0, zwt_i, zwt_l, zwt_r, zwt_n, zwt_x, zwt_v, zrv_0, zrv_s, zca_r, zca_n, zca_i, zca_l, zca_v, true_and, and_true, and_self, true_imp_iff, false_imp_iff, imp_self, not_true_eq_false, not_false_eq_true, forall_const, Nat.reduceAdd, Nat.reduceLeDiff, z01_0, z01_1, zlt0, zge0, zu_s, zu_n, zu_d, zu_c, nI_add, nI_clamp, false_or, or_false, false_and, and_false, zlt, zle, zeq, zeq0, zgt0, zle0, zsub, zm1, zne1, zle_t, zle_f, zlt_t, zlt_f, zen_t, zen_f, Option.toList_none, Option.toList_some, List.nil_append, List.cons_append, Nat.add_sub_cancel, zf_240_0, zf_240_1, zf_240_2, zf_240_3, zf_240_4, zf_240_5, zf_240_6, zf_240_7, zf_240_8, zf_240_9, zf_240_10, zf_240_11, zf_240_12, zf_240_13, zf_240_14, zf_240_15, zf_240_16, zf_240_17, zf_240_18, zf_240_19, zf_240_20, zf_240_21, zf_240_22, zf_240_23, zf_240_24, zf_240_25, zf_240_26, zf_240_27, zf_240_28, zf_240_29, zf_240_30, zf_240_31, zf_240_32, zf_240_33, zf_240_34, zf_240_35, zf_240_36, zf_240_37, zf_240_38, zf_240_39, zf_240_40, zf_240_41, zf_240_42, zf_240_43, zf_240_44, zf_240_45, zf_240_46, zf_240_47, zf_240_48, zf_240_49, zf_240_50, zf_240_51, zf_240_52, zf_240_53, zf_240_54, zf_240_55, zf_240_56, zf_240_57, zf_240_58, zf_240_59, zf_240_60, zf_240_61, zf_240_62, zf_240_63, zf_240_64, zf_240_65, zf_240_66, zf_240_67, zf_240_68, zf_240_69, zf_240_70, zf_240_71, zf_240_72, zc_240, za_241, za_242, za_243, za_244, za_245, za_246, za_247, za_248, za_249, za_250, za_251, za_252, za_253, za_254, za_255, za_256, za_257, za_258, za_259, za_260, za_261, zan_261, za_262, zan_262, za_263, za_264, za_265, za_266, za_267, za_268, za_269, za_270, za_271, za_272, za_273, za_274, za_275, za_276, za_277, za_278, zan_278, za_279, za_280, za_281, za_282, za_283, za_284, za_285, za_286, za_287, zr_240_0, zr_240_3, zr_240_4, zr_240_5, zr_240_9, zr_240_10, zr_240_12, zr_240_13, zr_240_14, zr_240_17, zr_240_18, zr_240_19, zr_240_20, zr_240_22, zr_240_23, zr_240_24, zr_240_25, zr_240_26, zr_240_30, zr_240_31, zr_240_32, zr_240_33, zr_240_34, zr_240_35, zr_240_36, zr_240_37, zr_240_38, zr_240_41, zr_240_42, zr_240_46, zr_240_48, zr_240_49, zr_240_50, zr_240_51, zr_240_53, zr_240_54, zr_240_55, zr_240_56, zr_240_57, zr_240_61, zr_240_62, zr_240_63, zr_240_64, zr_240_66, zr_240_68, zr_240_70, zr_240_72]
            refine c_Md_takes hn hTn hj2T hk4 o1 (by decide) ?_
            by_cases ht7 : (zt b n j2).1 = 7
            · rw [if_pos ht7]
              have hs3 : zpr 0 b n (j2 + 1) = some (0, 0, 2 * rd + 1 + 1, c2, op2, pa2, nt2, so2) := by
                simp only [zpr, f1, ht7]; rw [zps_7, if_pos ⟨rfl, by omega, rfl, f3⟩]
              simp (disch := first | omega | decide) only [k120_74, k120_77, k120_78_0, k120_78_1, k120_79, k120_80, k120_81, k120_84, k120_85, k120_86, k120_89, ↓zite, ↓reduceIte, zadd1, ↓zli_0, ↓zli_s, ↓zll_0, ↓zll_s, ↓zla_r, ↓zla_n, ↓zla_x, ↓zla_v, ↓zla_s, ↓zst_0, ↓zst_1, ↓zst_s, ↓zst2_0, ↓zst2_1, ↓zst2_s, zki_i, zki_r, zki_n, zki_x, zki_l, zki_0, zki_v, zwt_0, zwt_i, zwt_l, zwt_r, zwt_n, zwt_x, zwt_v, zrv_0, zrv_s, zca_r, zca_n, zca_i, zca_l, zca_v, true_and, and_true, and_self, true_imp_iff, false_imp_iff, imp_self, not_true_eq_false, not_false_eq_true, forall_const, Nat.reduceAdd, Nat.reduceLeDiff, z01_0, z01_1, zlt0, zge0, zu_s, zu_n, zu_d, zu_c, nI_add, nI_clamp, false_or, or_false, false_and, and_false, zlt, zle, zeq, zeq0, zgt0, zle0, zsub, zm1, zne1, zle_t, zle_f, zlt_t, zlt_f, zen_t, zen_f, Option.toList_none, Option.toList_some, List.nil_append, List.cons_append, Nat.add_sub_cancel, zf_240_0, zf_240_1, zf_240_2, zf_240_3, zf_240_4, zf_240_5, zf_240_6, zf_240_7, zf_240_8, zf_240_9, zf_240_10, zf_240_11, zf_240_12, zf_240_13, zf_240_14, zf_240_15, zf_240_16, zf_240_17, zf_240_18, zf_240_19, zf_240_20, zf_240_21, zf_240_22, zf_240_23, zf_240_24, zf_240_25, zf_240_26, zf_240_27, zf_240_28, zf_240_29, zf_240_30, zf_240_31, zf_240_32, zf_240_33, zf_240_34, zf_240_35, zf_240_36, zf_240_37, zf_240_38, zf_240_39, zf_240_40, zf_240_41, zf_240_42, zf_240_43, zf_240_44, zf_240_45, zf_240_46, zf_240_47, zf_240_48, zf_240_49, zf_240_50, zf_240_51, zf_240_52, zf_240_53, zf_240_54, zf_240_55, zf_240_56, zf_240_57, zf_240_58, zf_240_59, zf_240_60, zf_240_61, zf_240_62, zf_240_63, zf_240_64, zf_240_65, zf_240_66, zf_240_67, zf_240_68, zf_240_69, zf_240_70, zf_240_71, zf_240_72, zc_240, za_241, za_242, za_243, za_244, za_245, za_246, za_247, za_248, za_249, za_250, za_251, za_252, za_253, za_254, za_255, za_256, za_257, za_258, za_259, za_260, za_261, zan_261, za_262, zan_262, za_263, za_264, za_265, za_266, za_267, za_268, za_269, za_270, za_271, za_272, za_273, za_274, za_275, za_276, za_277, za_278, zan_278, za_279, za_280, za_281, za_282, za_283, za_284, za_285, za_286, za_287, zr_240_0, zr_240_3, zr_240_4, zr_240_5, zr_240_9, zr_240_10, zr_240_12, zr_240_13, zr_240_14, zr_240_17, zr_240_18, zr_240_19, zr_240_20, zr_240_22, zr_240_23, zr_240_24, zr_240_25, zr_240_26, zr_240_30, zr_240_31, zr_240_32, zr_240_33, zr_240_34, zr_240_35, zr_240_36, zr_240_37, zr_240_38, zr_240_41, zr_240_42, zr_240_46, zr_240_48, zr_240_49, zr_240_50, zr_240_51, zr_240_53, zr_240_54, zr_240_55, zr_240_56, zr_240_57, zr_240_61, zr_240_62, zr_240_63, zr_240_64, zr_240_66, zr_240_68, zr_240_70, zr_240_72, h15'']
              have h248 : ∀ r, I3 248 r = (va_up (I 248) rd (nI s.2.2.2.1)) r := fun r => by
                have a1 := congrFun (f7.1 248 (by decide) (by decide) (by decide) (by decide)) r
                have a2 := congrFun (e7.1 248 (by decide) (by decide) (by decide) (by decide)) r
                simp only [va_up] at a1 a2
                simp at a1 a2
                exact a1.trans a2
              have h249 : ∀ r, I3 249 r = (va_up (I 249) rd (nI c1)) r := fun r => by
                have a1 := congrFun (f7.1 249 (by decide) (by decide) (by decide) (by decide)) r
                have a2 := congrFun (e7.1 249 (by decide) (by decide) (by decide) (by decide)) r
                simp only [va_up] at a1 a2
                simp at a1 a2
                rw [a1]
                simp only [va_up, a2]
              have hfr3 : zfR I (va_up I3 240 (va_up (va_up (I3 240) 7 (nI (j2 + 1))) 15 (nI (rd + 1)))) := ⟨fun o h1 h2 h3 h4 h5 h6 => by simp [va_up, h1]; exact (f7.1 o h1 h2 h3 h4).trans (hfr2.1 o h1 h2 h3 h4 h5 h6), fun k h1 h2 h3 h4 => by simp [va_up, h1, h4]; exact (f7.2 k h1 h2 h3).trans (hfr2.2 k h1 h2 h3 h4)⟩
              refine ih (j2 + 1) (0, 0, 2 * rd + 1 + 1, c2, op2, pa2, nt2, so2) _ (rd + 1) (by have := zpr_T hT hs3; omega) hs3 rfl (by dsimp only; omega) ⟨by simp [va_up], by simp [va_up]; exact o2, fun i hi => by simp [va_up]; exact o3 i hi, fun i hi => by simp [va_up]; exact o4 i hi⟩ (fun i hi => by simp [va_up]; exact hk4 i hi) (by simp [va_up]) (fun r hr => ?_) (fun j s I' rd' g1 g2 g3 g4 g5 g6 g7 g8 g9 g10 => hY j s I' rd' g1 g2 g3 g4 g5 g6 g7 g8 g9 ⟨fun o h1 h2 h3 h4 h5 h6 => (g10.1 o h1 h2 h3 h4 h5 h6).trans (hfr3.1 o h1 h2 h3 h4 h5 h6), fun k h1 h2 h3 h4 => (g10.2 k h1 h2 h3 h4).trans (hfr3.2 k h1 h2 h3 h4)⟩) (fun j' s' I' g1 g2 g3 g4 => hN j' s' I' g1 g2 g3 ⟨fun o h1 h2 h3 h4 h5 h6 => (g4.1 o h1 h2 h3 h4 h5 h6).trans (hfr3.1 o h1 h2 h3 h4 h5 h6), fun k h1 h2 h3 h4 => (g4.2 k h1 h2 h3 h4).trans (hfr3.2 k h1 h2 h3 h4)⟩)
              have hA : va_up I3 240 (va_up (va_up (I3 240) 7 (nI (j2 + 1))) 15 (nI (rd + 1))) 248 r = va_up (I 248) rd (nI s.2.2.2.1) r := by simp only [va_up]; simp; exact h248 r
              have hB : va_up I3 240 (va_up (va_up (I3 240) 7 (nI (j2 + 1))) 15 (nI (rd + 1))) 249 r = va_up (I 249) rd (nI c1) r := by simp only [va_up]; simp; exact h249 r
              rw [hA, hB]
              dsimp only
              by_cases hr2 : r = rd
              · subst hr2
                rw [zu_s, zu_s]
                refine ⟨?_, ?_⟩
                · have q1 : znb so2 (2 * r) c2 = znb s.2.2.2.2.2.2.2 (2 * r) s.2.2.2.1 := znb_ext c2 hl3.1 (fun i hi => (hl3.2.2.1 i hi).1) (fun i a b => by have := hl3.2.2.2 i a b; dsimp only at this; omega)
                  rw [q1, znb_all _ (fun i hi => by rw [← hsd]; exact hso i hi)]
                · have q1 : znb so2 (2 * r + 1) c2 = znb so1 (2 * r + 1) c1 := znb_ext c2 hl2.1 (fun i hi => (hl2.2.2.1 i hi).1) (fun i a b => by have := hl2.2.2.2 i a b; dsimp only at this; omega)
                  rw [q1, znb_all _ (fun i hi => by have := (hw1.2.2.2.2.2.2 i hi).2.2; dsimp only at this; omega)]
              · rw [zu_n hr2, zu_n hr2]
                have := hfo r (by omega)
                rw [this.1, this.2]
                refine ⟨congrArg nI (Eq.symm ?_), congrArg nI (Eq.symm ?_)⟩
                · exact znb_ext c2 hl3.1 (fun i hi => (hl3.2.2.1 i hi).1) (fun i a b => by have := hl3.2.2.2 i a b; dsimp only at this; omega)
                · exact znb_ext c2 hl3.1 (fun i hi => (hl3.2.2.1 i hi).1) (fun i a b => by have := hl3.2.2.2 i a b; dsimp only at this; omega)
            · rw [if_neg ht7]
              simp (disch := first | omega | decide) only [k120_74, k120_77, k120_78_0, k120_78_1, k120_79, k120_80, k120_81, k120_84, k120_85, k120_86, k120_89, ↓zite, ↓reduceIte, zadd1, ↓zli_0, ↓zli_s, ↓zll_0, ↓zll_s, ↓zla_r, ↓zla_n, ↓zla_x, ↓zla_v, ↓zla_s, ↓zst_0, ↓zst_1, ↓zst_s, ↓zst2_0, ↓zst2_1, ↓zst2_s, zki_i, zki_r, zki_n, zki_x, zki_l, zki_0, zki_v, zwt_0, zwt_i, zwt_l, zwt_r, zwt_n, zwt_x, zwt_v, zrv_0, zrv_s, zca_r, zca_n, zca_i, zca_l, zca_v, true_and, and_true, and_self, true_imp_iff, false_imp_iff, imp_self, not_true_eq_false, not_false_eq_true, forall_const, Nat.reduceAdd, Nat.reduceLeDiff, z01_0, z01_1, zlt0, zge0, zu_s, zu_n, zu_d, zu_c, nI_add, nI_clamp, false_or, or_false, false_and, and_false, zlt, zle, zeq, zeq0, zgt0, zle0, zsub, zm1, zne1, zle_t, zle_f, zlt_t, zlt_f, zen_t, zen_f, Option.toList_none, Option.toList_some, List.nil_append, List.cons_append, Nat.add_sub_cancel, zf_240_0, zf_240_1, zf_240_2, zf_240_3, zf_240_4, zf_240_5, zf_240_6, zf_240_7, zf_240_8, zf_240_9, zf_240_10, zf_240_11, zf_240_12, zf_240_13, zf_240_14, zf_240_15, zf_240_16, zf_240_17, zf_240_18, zf_240_19, zf_240_20, zf_240_21, zf_240_22, zf_240_23, zf_240_24, zf_240_25, zf_240_26, zf_240_27, zf_240_28, zf_240_29, zf_240_30, zf_240_31, zf_240_32, zf_240_33, zf_240_34, zf_240_35, zf_240_36, zf_240_37, zf_240_38, zf_240_39, zf_240_40, zf_240_41, zf_240_42, zf_240_43, zf_240_44, zf_240_45, zf_240_46, zf_240_47, zf_240_48, zf_240_49, zf_240_50, zf_240_51, zf_240_52, zf_240_53, zf_240_54, zf_240_55, zf_240_56, zf_240_57, zf_240_58, zf_240_59, zf_240_60, zf_240_61, zf_240_62, zf_240_63, zf_240_64, zf_240_65, zf_240_66, zf_240_67, zf_240_68, zf_240_69, zf_240_70, zf_240_71, zf_240_72, zc_240, za_241, za_242, za_243, za_244, za_245, za_246, za_247, za_248, za_249, za_250, za_251, za_252, za_253, za_254, za_255, za_256, za_257, za_258, za_259, za_260, za_261, zan_261, za_262, zan_262, za_263, za_264, za_265, za_266, za_267, za_268, za_269, za_270, za_271, za_272, za_273, za_274, za_275, za_276, za_277, za_278, zan_278, za_279, za_280, za_281, za_282, za_283, za_284, za_285, za_286, za_287, zr_240_0, zr_240_3, zr_240_4, zr_240_5, zr_240_9, zr_240_10, zr_240_12, zr_240_13, zr_240_14, zr_240_17, zr_240_18, zr_240_19, zr_240_20, zr_240_22, zr_240_23, zr_240_24, zr_240_25, zr_240_26, zr_240_30, zr_240_31, zr_240_32, zr_240_33, zr_240_34, zr_240_35, zr_240_36, zr_240_37, zr_240_38, zr_240_41, zr_240_42, zr_240_46, zr_240_48, zr_240_49, zr_240_50, zr_240_51, zr_240_53, zr_240_54, zr_240_55, zr_240_56, zr_240_57, zr_240_61, zr_240_62, zr_240_63, zr_240_64, zr_240_66, zr_240_68, zr_240_70, zr_240_72]
              refine hN j2 _ _ ⟨f1, ?_⟩ ?_ (by simp [va_up]) ⟨fun o h1 h2 h3 h4 h5 h6 => by simp [va_up, h1]; exact (f7.1 o h1 h2 h3 h4).trans (hfr2.1 o h1 h2 h3 h4 h5 h6), fun k h1 h2 h3 h4 => by simp [va_up, h2]; exact (f7.2 k h1 h2 h3).trans (hfr2.2 k h1 h2 h3 h4)⟩
              · cases hz : zps 0 (zt b n j2).1 j2 (st2, 0, 2 * rd + 1, c2, op2, pa2, nt2, so2) with
                | none => rfl
                | some s3 => rcases zps_inv hz with ⟨_, q, _, e⟩ | ⟨q, q', _, e⟩ | ⟨_, q, _, e⟩ | ⟨_, q, _, e⟩ | ⟨_, q, _⟩ | ⟨q, _, _, _, _, e⟩
                             · omega
                             · exact absurd q (f5 q')
                             · omega
                             · omega
                             · simp [zmeq] at q
                             · omega
              · have : ¬ st2 = 0 := by omega
                simp [zgood, zmend, this]
          · simp (disch := first | omega | decide) only [k120_65, k120_68, k120_69, k120_71, k120_74, k120_77, k120_78_0, k120_78_1, k120_79, k120_80, k120_81, k120_84, k120_85, k120_86, k120_89, ↓zite, ↓reduceIte, zadd1, ↓zli_0, ↓zli_s, ↓zll_0, ↓zll_s, ↓zla_r, ↓zla_n, ↓zla_x, ↓zla_v, ↓zla_s, ↓zst_0, ↓zst_1, ↓zst_s, ↓zst2_0, ↓zst2_1, ↓zst2_s, zki_i, zki_r, zki_n, zki_x, zki_l, zki_0, zki_v, zwt_0, zwt_i, zwt_l, zwt_r, zwt_n, zwt_x, zwt_v, zrv_0, zrv_s, zca_r, zca_n, zca_i, zca_l, zca_v, true_and, and_true, and_self, true_imp_iff, false_imp_iff, imp_self, not_true_eq_false, not_false_eq_true, forall_const, Nat.reduceAdd, Nat.reduceLeDiff, z01_0, z01_1, zlt0, zge0, zu_s, zu_n, zu_d, zu_c, nI_add, nI_clamp, false_or, or_false, false_and, and_false, zlt, zle, zeq, zeq0, zgt0, zle0, zsub, zm1, zne1, zle_t, zle_f, zlt_t, zlt_f, zen_t, zen_f, Option.toList_none, Option.toList_some, List.nil_append, List.cons_append, Nat.add_sub_cancel, zf_240_0, zf_240_1, zf_240_2, zf_240_3, zf_240_4, zf_240_5, zf_240_6, zf_240_7, zf_240_8, zf_240_9, zf_240_10, zf_240_11, zf_240_12, zf_240_13, zf_240_14, zf_240_15, zf_240_16, zf_240_17, zf_240_18, zf_240_19, zf_240_20, zf_240_21, zf_240_22, zf_240_23, zf_240_24, zf_240_25, zf_240_26, zf_240_27, zf_240_28, zf_240_29, zf_240_30, zf_240_31, zf_240_32, zf_240_33, zf_240_34, zf_240_35, zf_240_36, zf_240_37, zf_240_38, zf_240_39, zf_240_40, zf_240_41, zf_240_42, zf_240_43, zf_240_44, zf_240_45, zf_240_46, zf_240_47, zf_240_48, zf_240_49, zf_240_50, zf_240_51, zf_240_52, zf_240_53, zf_240_54, zf_240_55, zf_240_56, zf_240_57, zf_240_58, zf_240_59, zf_240_60, zf_240_61, zf_240_62, zf_240_63, zf_240_64, zf_240_65, zf_240_66, zf_240_67, zf_240_68, zf_240_69, zf_240_70, zf_240_71, zf_240_72, zc_240, za_241, za_242, za_243, za_244, za_245, za_246, za_247, za_248, za_249, za_250, za_251, za_252, za_253, za_254, za_255, za_256, za_257, za_258, za_259, za_260, za_261, zan_261, za_262, zan_262, za_263, za_264, za_265, za_266, za_267, za_268, za_269, za_270, za_271, za_272, za_273, za_274, za_275, za_276, za_277, za_278, zan_278, za_279, za_280, za_281, za_282, za_283, za_284, za_285, za_286, za_287, zr_240_0, zr_240_3, zr_240_4, zr_240_5, zr_240_9, zr_240_10, zr_240_12, zr_240_13, zr_240_14, zr_240_17, zr_240_18, zr_240_19, zr_240_20, zr_240_22, zr_240_23, zr_240_24, zr_240_25, zr_240_26, zr_240_30, zr_240_31, zr_240_32, zr_240_33, zr_240_34, zr_240_35, zr_240_36, zr_240_37, zr_240_38, zr_240_41, zr_240_42, zr_240_46, zr_240_48, zr_240_49, zr_240_50, zr_240_51, zr_240_53, zr_240_54, zr_240_55, zr_240_56, zr_240_57, zr_240_61, zr_240_62, zr_240_63, zr_240_64, zr_240_66, zr_240_68, zr_240_70, zr_240_72]
            exact hN j' s' I' f1 f2 f3 ⟨fun o h1 h2 h3 h4 h5 h6 => (f4.1 o h1 h2 h3 h4).trans (hfr2.1 o h1 h2 h3 h4 h5 h6), fun k h1 h2 h3 h4 => (f4.2 k h1 h2 h3).trans (hfr2.2 k h1 h2 h3 h4)⟩
        · rw [if_neg ht6]
          simp (disch := first | omega | decide) only [k120_43, k120_46, k120_47_0, k120_47_1, k120_48, k120_49, k120_52, k120_53, k120_56, k120_57, k120_60, k120_61, k120_62, k120_65, k120_68, k120_69, k120_71, k120_74, k120_77, k120_78_0, k120_78_1, k120_79, k120_80, k120_81, k120_84, k120_85, k120_86, k120_89, ↓zite, ↓reduceIte, zadd1, ↓zli_0, ↓zli_s, ↓zll_0, ↓zll_s, ↓zla_r, ↓zla_n, ↓zla_x, ↓zla_v, ↓zla_s, ↓zst_0, ↓zst_1, ↓zst_s, ↓zst2_0, ↓zst2_1, ↓zst2_s, zki_i, zki_r, zki_n, zki_x, zki_l, zki_0, zki_v, zwt_0, zwt_i, zwt_l, zwt_r, zwt_n, zwt_x, zwt_v, zrv_0, zrv_s, zca_r, zca_n, zca_i, zca_l, zca_v, true_and, and_true, and_self, true_imp_iff, false_imp_iff, imp_self, not_true_eq_false, not_false_eq_true, forall_const, Nat.reduceAdd, Nat.reduceLeDiff, z01_0, z01_1, zlt0, zge0, zu_s, zu_n, zu_d, zu_c, nI_add, nI_clamp, false_or, or_false, false_and, and_false, zlt, zle, zeq, zeq0, zgt0, zle0, zsub, zm1, zne1, zle_t, zle_f, zlt_t, zlt_f, zen_t, zen_f, Option.toList_none, Option.toList_some, List.nil_append, List.cons_append, Nat.add_sub_cancel, zf_240_0, zf_240_1, zf_240_2, zf_240_3, zf_240_4, zf_240_5, zf_240_6, zf_240_7, zf_240_8, zf_240_9, zf_240_10, zf_240_11, zf_240_12, zf_240_13, zf_240_14, zf_240_15, zf_240_16, zf_240_17, zf_240_18, zf_240_19, zf_240_20, zf_240_21, zf_240_22, zf_240_23, zf_240_24, zf_240_25, zf_240_26, zf_240_27, zf_240_28, zf_240_29, zf_240_30, zf_240_31, zf_240_32, zf_240_33, zf_240_34, zf_240_35, zf_240_36, zf_240_37, zf_240_38, zf_240_39, zf_240_40, zf_240_41, zf_240_42, zf_240_43, zf_240_44, zf_240_45, zf_240_46, zf_240_47, zf_240_48, zf_240_49, zf_240_50, zf_240_51, zf_240_52, zf_240_53, zf_240_54, zf_240_55, zf_240_56, zf_240_57, zf_240_58, zf_240_59, zf_240_60, zf_240_61, zf_240_62, zf_240_63, zf_240_64, zf_240_65, zf_240_66, zf_240_67, zf_240_68, zf_240_69, zf_240_70, zf_240_71, zf_240_72, zc_240, za_241, za_242, za_243, za_244, za_245, za_246, za_247, za_248, za_249, za_250, za_251, za_252, za_253, za_254, za_255, za_256, za_257, za_258, za_259, za_260, za_261, zan_261, za_262, zan_262, za_263, za_264, za_265, za_266, za_267, za_268, za_269, za_270, za_271, za_272, za_273, za_274, za_275, za_276, za_277, za_278, zan_278, za_279, za_280, za_281, za_282, za_283, za_284, za_285, za_286, za_287, zr_240_0, zr_240_3, zr_240_4, zr_240_5, zr_240_9, zr_240_10, zr_240_12, zr_240_13, zr_240_14, zr_240_17, zr_240_18, zr_240_19, zr_240_20, zr_240_22, zr_240_23, zr_240_24, zr_240_25, zr_240_26, zr_240_30, zr_240_31, zr_240_32, zr_240_33, zr_240_34, zr_240_35, zr_240_36, zr_240_37, zr_240_38, zr_240_41, zr_240_42, zr_240_46, zr_240_48, zr_240_49, zr_240_50, zr_240_51, zr_240_53, zr_240_54, zr_240_55, zr_240_56, zr_240_57, zr_240_61, zr_240_62, zr_240_63, zr_240_64, zr_240_66, zr_240_68, zr_240_70, zr_240_72]
          refine hN j1 _ _ ⟨e1, ?_⟩ ?_ (by simp [va_up]) ⟨fun o h1 h2 h3 h4 h5 h6 => by simp [va_up, h1]; exact (e7.1 o h1 h2 h3 h4).trans (hfr0.1 o h1 h2 h3 h4 h5 h6), fun k h1 h2 h3 h4 => by simp [va_up, h2]; exact (e7.2 k h1 h2 h3).trans (hfr0.2 k h1 h2 h3 h4)⟩
          · cases hz : zps 0 (zt b n j1).1 j1 (st1, 0, 2 * rd, c1, op1, pa1, nt1, so1) with
            | none => rfl
            | some s3 => rcases zps_inv hz with ⟨_, q, _, e⟩ | ⟨q, q', _, e⟩ | ⟨_, q, _, e⟩ | ⟨_, q, _, e⟩ | ⟨q, _, _⟩ | ⟨_, _, q, _, _, e⟩
                         · omega
                         · exact absurd q (e5 q')
                         · omega
                         · omega
                         · omega
                         · omega
          · have : ¬ st1 = 0 := by omega
            simp [zgood, zmend, this]
      · simp (disch := first | omega | decide) only [k120_34, k120_37, k120_38, k120_40, k120_43, k120_46, k120_47_0, k120_47_1, k120_48, k120_49, k120_52, k120_53, k120_56, k120_57, k120_60, k120_61, k120_62, k120_65, k120_68, k120_69, k120_71, k120_74, k120_77, k120_78_0, k120_78_1, k120_79, k120_80, k120_81, k120_84, k120_85, k120_86, k120_89, ↓zite, ↓reduceIte, zadd1, ↓zli_0, ↓zli_s, ↓zll_0, ↓zll_s, ↓zla_r, ↓zla_n, ↓zla_x, ↓zla_v, ↓zla_s, ↓zst_0, ↓zst_1, ↓zst_s, ↓zst2_0, ↓zst2_1, ↓zst2_s, zki_i, zki_r, zki_n, zki_x, zki_l, zki_0, zki_v, zwt_0, zwt_i, zwt_l, zwt_r, zwt_n, zwt_x, zwt_v, zrv_0, zrv_s, zca_r, zca_n, zca_i, zca_l, zca_v, true_and, and_true, and_self, true_imp_iff, false_imp_iff, imp_self, not_true_eq_false, not_false_eq_true, forall_const, Nat.reduceAdd, Nat.reduceLeDiff, z01_0, z01_1, zlt0, zge0, zu_s, zu_n, zu_d, zu_c, nI_add, nI_clamp, false_or, or_false, false_and, and_false, zlt, zle, zeq, zeq0, zgt0, zle0, zsub, zm1, zne1, zle_t, zle_f, zlt_t, zlt_f, zen_t, zen_f, Option.toList_none, Option.toList_some, List.nil_append, List.cons_append, Nat.add_sub_cancel, zf_240_0, zf_240_1, zf_240_2, zf_240_3, zf_240_4, zf_240_5, zf_240_6, zf_240_7, zf_240_8, zf_240_9, zf_240_10, zf_240_11, zf_240_12, zf_240_13, zf_240_14, zf_240_15, zf_240_16, zf_240_17, zf_240_18, zf_240_19, zf_240_20, zf_240_21, zf_240_22, zf_240_23, zf_240_24, zf_240_25, zf_240_26, zf_240_27, zf_240_28, zf_240_29, zf_240_30, zf_240_31, zf_240_32, zf_240_33, zf_240_34, zf_240_35, zf_240_36, zf_240_37, zf_240_38, zf_240_39, zf_240_40, zf_240_41, zf_240_42, zf_240_43, zf_240_44, zf_240_45, zf_240_46, zf_240_47, zf_240_48, zf_240_49, zf_240_50, zf_240_51, zf_240_52, zf_240_53, zf_240_54, zf_240_55, zf_240_56, zf_240_57, zf_240_58, zf_240_59, zf_240_60, zf_240_61, zf_240_62, zf_240_63, zf_240_64, zf_240_65, zf_240_66, zf_240_67, zf_240_68, zf_240_69, zf_240_70, zf_240_71, zf_240_72, zc_240, za_241, za_242, za_243, za_244, za_245, za_246, za_247, za_248, za_249, za_250, za_251, za_252, za_253, za_254, za_255, za_256, za_257, za_258, za_259, za_260, za_261, zan_261, za_262, zan_262, za_263, za_264, za_265, za_266, za_267, za_268, za_269, za_270, za_271, za_272, za_273, za_274, za_275, za_276, za_277, za_278, zan_278, za_279, za_280, za_281, za_282, za_283, za_284, za_285, za_286, za_287, zr_240_0, zr_240_3, zr_240_4, zr_240_5, zr_240_9, zr_240_10, zr_240_12, zr_240_13, zr_240_14, zr_240_17, zr_240_18, zr_240_19, zr_240_20, zr_240_22, zr_240_23, zr_240_24, zr_240_25, zr_240_26, zr_240_30, zr_240_31, zr_240_32, zr_240_33, zr_240_34, zr_240_35, zr_240_36, zr_240_37, zr_240_38, zr_240_41, zr_240_42, zr_240_46, zr_240_48, zr_240_49, zr_240_50, zr_240_51, zr_240_53, zr_240_54, zr_240_55, zr_240_56, zr_240_57, zr_240_61, zr_240_62, zr_240_63, zr_240_64, zr_240_66, zr_240_68, zr_240_70, zr_240_72]
        exact hN j' s' I' e1 e2 e3 ⟨fun o h1 h2 h3 h4 h5 h6 => (e4.1 o h1 h2 h3 h4).trans (hfr0.1 o h1 h2 h3 h4 h5 h6), fun k h1 h2 h3 h4 => (e4.2 k h1 h2 h3).trans (hfr0.2 k h1 h2 h3 h4)⟩
set_option maxRecDepth 100000 in
set_option maxHeartbeats 4000000 in
theorem c_Md_readRules {I : tI} (hn : n ≤ 4000) (hT : zTT b n T) (h7 : I 240 7 = nI 0) (h11 : I 240 11 = nI 0) (hk : zTK b n T I)
    (hY : ∀ j s I' rd, zrd 0 b n j s → zgood 0 b n j s = true → s.1 = 0 → s.2.2.1 = 2 * rd → zMP j s s.2.2.2.2.2.1 I' → zTK b n T I' → I' 240 15 = nI rd → zFO s.2.2.2.2.2.2.2 s.2.2.2.1 rd I' → I' 248 rd = nI s.2.2.2.1 → zfR I I' → Q (some (.int (nI 1))) zE I' J (zR hp sp tp))
    (hN : ∀ j s I', zrd 0 b n j s → zgood 0 b n j s = false → I' 240 8 = nI (zt b n j).2.1 → zfR I I' → Q (some (.int (nI 0))) zE I' J (zR hp sp tp)) : cwp X 120 [.ref 240] zE I J (zR hp sp tp) Q := by
  show wp X 120 0 [some (.ref 240)] [] zE I J (zR hp sp tp) Q
  simp (disch := first | omega | decide) only [k120_0, k120_1, k120_2, ↓zite, ↓reduceIte, zadd1, ↓zli_0, ↓zli_s, ↓zll_0, ↓zll_s, ↓zla_r, ↓zla_n, ↓zla_x, ↓zla_v, ↓zla_s, ↓zst_0, ↓zst_1, ↓zst_s, ↓zst2_0, ↓zst2_1, ↓zst2_s, zki_i, zki_r, zki_n, zki_x, zki_l, zki_0, zki_v, zwt_0, zwt_i, zwt_l, zwt_r, zwt_n, zwt_x, zwt_v, zrv_0, zrv_s, zca_r, zca_n, zca_i, zca_l, zca_v, true_and, and_true, and_self, true_imp_iff, false_imp_iff, imp_self, not_true_eq_false, not_false_eq_true, forall_const, Nat.reduceAdd, Nat.reduceLeDiff, z01_0, z01_1, zlt0, zge0, zu_s, zu_n, zu_d, zu_c, nI_add, nI_clamp, false_or, or_false, false_and, and_false, zlt, zle, zeq, zeq0, zgt0, zle0, zsub, zm1, zne1, zle_t, zle_f, zlt_t, zlt_f, zen_t, zen_f, Option.toList_none, Option.toList_some, List.nil_append, List.cons_append, Nat.add_sub_cancel, zf_240_0, zf_240_1, zf_240_2, zf_240_3, zf_240_4, zf_240_5, zf_240_6, zf_240_7, zf_240_8, zf_240_9, zf_240_10, zf_240_11, zf_240_12, zf_240_13, zf_240_14, zf_240_15, zf_240_16, zf_240_17, zf_240_18, zf_240_19, zf_240_20, zf_240_21, zf_240_22, zf_240_23, zf_240_24, zf_240_25, zf_240_26, zf_240_27, zf_240_28, zf_240_29, zf_240_30, zf_240_31, zf_240_32, zf_240_33, zf_240_34, zf_240_35, zf_240_36, zf_240_37, zf_240_38, zf_240_39, zf_240_40, zf_240_41, zf_240_42, zf_240_43, zf_240_44, zf_240_45, zf_240_46, zf_240_47, zf_240_48, zf_240_49, zf_240_50, zf_240_51, zf_240_52, zf_240_53, zf_240_54, zf_240_55, zf_240_56, zf_240_57, zf_240_58, zf_240_59, zf_240_60, zf_240_61, zf_240_62, zf_240_63, zf_240_64, zf_240_65, zf_240_66, zf_240_67, zf_240_68, zf_240_69, zf_240_70, zf_240_71, zf_240_72, zc_240, za_241, za_242, za_243, za_244, za_245, za_246, za_247, za_248, za_249, za_250, za_251, za_252, za_253, za_254, za_255, za_256, za_257, za_258, za_259, za_260, za_261, zan_261, za_262, zan_262, za_263, za_264, za_265, za_266, za_267, za_268, za_269, za_270, za_271, za_272, za_273, za_274, za_275, za_276, za_277, za_278, zan_278, za_279, za_280, za_281, za_282, za_283, za_284, za_285, za_286, za_287, zr_240_0, zr_240_3, zr_240_4, zr_240_5, zr_240_9, zr_240_10, zr_240_12, zr_240_13, zr_240_14, zr_240_17, zr_240_18, zr_240_19, zr_240_20, zr_240_22, zr_240_23, zr_240_24, zr_240_25, zr_240_26, zr_240_30, zr_240_31, zr_240_32, zr_240_33, zr_240_34, zr_240_35, zr_240_36, zr_240_37, zr_240_38, zr_240_41, zr_240_42, zr_240_46, zr_240_48, zr_240_49, zr_240_50, zr_240_51, zr_240_53, zr_240_54, zr_240_55, zr_240_56, zr_240_57, zr_240_61, zr_240_62, zr_240_63, zr_240_64, zr_240_66, zr_240_68, zr_240_70, zr_240_72]
  have hfr : zfR I (va_up I 240 (va_up (I 240) 15 (nI 0))) := ⟨fun o h1 h2 h3 h4 h5 h6 => by simp [va_up, h1], fun k h1 h2 h3 h4 => by simp [va_up, h4]⟩
  refine l_readRules (X := X) (Q := Q) (hp := hp) (sp := sp) (tp := tp) (J := J) hn hT (T + 1) 0 (zP0 0) _ 0 (by omega) rfl rfl rfl ⟨by simp [va_up]; exact h7, by simp [va_up]; exact h11, fun i hi => by simp [zP0] at hi, fun i hi => by simp [zP0] at hi⟩ (fun i hi => by simp [va_up]; exact hk i hi) (by simp [va_up]) (fun r hr => by omega) (fun j s I' rd' g1 g2 g3 g4 g5 g6 g7 g8 g9 g10 => hY j s I' rd' g1 g2 g3 g4 g5 g6 g7 g8 g9 ⟨fun o h1 h2 h3 h4 h5 h6 => (g10.1 o h1 h2 h3 h4 h5 h6).trans (hfr.1 o h1 h2 h3 h4 h5 h6), fun k h1 h2 h3 h4 => (g10.2 k h1 h2 h3 h4).trans (hfr.2 k h1 h2 h3 h4)⟩) (fun j' s' I' g1 g2 g3 g4 => hN j' s' I' g1 g2 g3 ⟨fun o h1 h2 h3 h4 h5 h6 => (g4.1 o h1 h2 h3 h4 h5 h6).trans (hfr.1 o h1 h2 h3 h4 h5 h6), fun k h1 h2 h3 h4 => (g4.2 k h1 h2 h3 h4).trans (hfr.2 k h1 h2 h3 h4)⟩)
end RR
