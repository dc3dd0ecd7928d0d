/-! what a reading without a fault gives -/
theorem zrd_uni {K : Nat} {b : Nat → Nat} {n j j' : Nat} {s s' : tP} (h : zrd K b n j s) (h' : zrd K b n j' s') : j = j' ∧ s = s' := by
  have key : ∀ j j' s s', zrd K b n j s → zrd K b n j' s' → ¬ j < j' := by
    intro j j' s s' h h' hlt
    have hn : ∀ d, zpr K b n (j + 1 + d) = none := by
      intro d
      induction d with
      | zero =>
        show zpr K b n (j + 1) = none
        simp only [zpr, h.1]
        exact h.2
      | succ d ih =>
        show zpr K b n (j + 1 + d + 1) = none
        simp only [zpr]
        rw [ih]
    have := hn (j' - (j + 1))
    rw [show j + 1 + (j' - (j + 1)) = j' by omega, h'.1] at this
    cases this
  have e : j = j' := by
    have h1 := key _ _ _ _ h h'
    have h2 := key _ _ _ _ h' h
    omega
  subst e
  refine ⟨rfl, ?_⟩
  have h1 := h.1
  rw [h'.1] at h1
  cases h1
  rfl
theorem zt_iv {b : Nat → Nat} {n t : Nat} (h : (zt b n t).1 = 1 ∨ (zt b n t).1 = 2) : (zt b n t).1 = 2 ↔ ziv (znm b n t) = true := by
  obtain ⟨h1, h2, h3, h4, h5, h6, h7⟩ := ztok_name h
  have h0 : (znm b n t).getD 0 0 = b (zt b n t).2.1 := zbs_get (b := b) (a := (zt b n t).2.1) (show 0 < (zt b n t).2.2 from h1)
  rw [show (zt b n t).1 = 2 ↔ b (zt b n t).2.1 ≤ 90 from h7]
  unfold ziv
  rw [h0, decide_eq_true_iff]
  have := of_decide_eq_true h5
  have h8 : (97 ≤ b (zt b n t).2.1 ∧ b (zt b n t).2.1 ≤ 122) ∨ (65 ≤ b (zt b n t).2.1 ∧ b (zt b n t).2.1 ≤ 90) := this
  constructor
  · intro q; omega
  · intro q; omega
theorem zch_of {pa so : Nat → Nat} {c m : Nat} (hT : ∀ i, i < c → ∀ v, so i < v ↔ i < znb so v c) (hS : ∀ v, v < m → zS pa 1 (znb so v c) (znb so (v + 1) c)) (hm : ∀ i, i < c → so i < m) : zch so c := by
  have h0 : znb so 0 c = 0 := by
    have : ∀ k, znb so 0 k = 0 := by
      intro k
      induction k with
      | zero => rfl
      | succ k ih => simp only [znb]; rw [ih, if_neg (Nat.not_lt_zero _)]
    exact this c
  refine ⟨fun hc => ?_, fun k hk => ⟨?_, ?_⟩⟩
  · have h1 := hm 0 hc
    have h2 := zS_le (hS 0 (by omega))
    have := (hT 0 hc (0 + 1)).mpr (by omega)
    omega
  · have := (hT (k + 1) hk (so (k + 1) + 1)).mp (by omega)
    have := (hT k (by omega) (so (k + 1) + 1)).mpr (by omega)
    omega
  · rcases Nat.lt_or_ge (so k + 1) (so (k + 1)) with q | q
    · exfalso
      have h1 := (hT k (by omega) (so k + 1)).mp (by omega)
      have h2 : ¬ k + 1 < znb so (so k + 1) c := fun e => by have := (hT (k + 1) hk (so k + 1)).mpr e; omega
      have h3 : ¬ k + 1 < znb so (so k + 1 + 1) c := fun e => by have := (hT (k + 1) hk (so k + 1 + 1)).mpr e; omega
      have h4 := hm (k + 1) hk
      have h5 := zS_le (hS (so k + 1) (by omega))
      omega
    · exact q
/-- what is read, as nodes: m sides -/
def zTG (b : Nat → Nat) (n T : Nat) (nt pa so : Nat → Nat) (c m : Nat) : Prop := n ≤ 4000 ∧ T ≤ n ∧ (∀ j, j < n → b j < 256) ∧ zch so c ∧ c ≤ 2000 ∧ (∀ i, i < c → so i < m) ∧ (∀ v, v < m → zS pa 1 (znb so v c) (znb so (v + 1) c)) ∧ ∀ i, i < c → nt i ≤ T ∧ ((zt b n (nt i)).1 = 1 ∨ (zt b n (nt i)).1 = 2) ∧ ((zt b n (nt i)).1 = 2 ↔ ziv (znm b n (nt i)) = true) ∧ zvn (znm b n (nt i)) ∧ pa i ≤ 4000 ∧ ((zt b n (nt i)).1 = 2 → pa i = 0)
theorem zTG_of {b : Nat → Nat} {n T K j m st d sd c : Nat} {op pa nt so : Nat → Nat} (hn : n ≤ 4000) (hb1 : ∀ j, j < n → b j < 256) (hTn : T ≤ n) (hjT : j ≤ T) (h : zpr K b n j = some (st, d, sd, c, op, pa, nt, so)) (hm : ∀ i, i < c → so i < m) (hS : ∀ v, v < m → zS pa 1 (znb so v c) (znb so (v + 1) c)) : zTG b n T nt pa so c m := by
  obtain ⟨w1, w2, w3, w4, w5, w6, w7⟩ := (zpr_wf j _ h).1
  have hp := zpos_le (b := b) (n := n) j
  obtain ⟨t1, t2, t3, t4, t5, t6, t7, t8, t9, t10, t11, t12, t13⟩ := (zpr_tr j _ h).1
  dsimp only at w4 w7
  have hc : 2 * c ≤ n + 1 := by
    by_cases q : st < 2
    · rw [if_pos q] at w4; omega
    · rw [if_neg q] at w4; omega
  refine ⟨hn, hTn, hb1, zch_of t10 hS hm, by omega, hm, hS, fun i hi => ?_⟩
  have hk := (t11 i hi).1
  obtain ⟨v1, v2, v3⟩ := w7 i hi
  exact ⟨by omega, hk, zt_iv hk, znm_v hk, by omega, (t11 i hi).2⟩
theorem zTF_of {b : Nat → Nat} {n T j rd st d sd c : Nat} {op pa nt so : Nat → Nat} (hn : n ≤ 4000) (hb1 : ∀ j, j < n → b j < 256) (hTn : T ≤ n) (hjT : j ≤ T) (h : zpr 0 b n j = some (st, d, sd, c, op, pa, nt, so)) (hst : st = 0) (hrd : sd = 2 * rd) : zTF b n T nt pa so c rd := by
  obtain ⟨t1, t2⟩ := (zpr_tr j _ h).1
  have h0 := (zpr_st0 j _ h hst).1
  dsimp only at h0
  rw [hrd] at h0 t1
  exact zTG_of hn hb1 hTn hjT h h0 t1
theorem zTX_of {K : Nat} {b : Nat → Nat} {n st d sd c : Nat} {op pa nt so : Nat → Nat} {I : tI} {J : tJ} (hk : ∀ i, i < c → (zt b n (nt i)).1 = 1 ∨ (zt b n (nt i)).1 = 2) (h : zCP K b n (st, d, sd, c, op, pa, nt, so) I J) : zTX (fun i => znm b n (nt i)) (fun i => (zt b n (nt i)).2.1) pa so sd c I J := by
  obtain ⟨h1, h2, h3, h4, h5, h6, h7⟩ := h
  refine ⟨h4, h5, fun i hi => ?_⟩
  obtain ⟨a1, a2, a3, a4, a5⟩ := h7 i hi
  obtain ⟨e1, e2⟩ := znm_h (hk i hi)
  exact ⟨a1, a2.trans e1, a3.trans e2, a4, a5⟩
theorem zt_at {b : Nat → Nat} {n t : Nat} : (zt b n t).2.1 ≤ n := by
  have h := ztok_ge (b := b) (n := n) (k := zpos b n t) (zpos_le t)
  have h1 : (zt b n t).2.1 + (zt b n t).2.2 ≤ n := h.2.1
  omega
