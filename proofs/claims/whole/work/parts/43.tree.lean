/-! rows of nodes as terms: a is the number of parts of each node; k terms from p on end at e -/
def zsc (a : Nat → Nat) : Nat → Nat → Nat → Option Nat
  | _, 0, p => some p
  | 0, _ + 1, _ => none
  | f + 1, k + 1, p => zsc a f (k + a p) (p + 1)
def zS (a : Nat → Nat) (k p e : Nat) : Prop := ∃ f, zsc a f k p = some e
section TR
variable {a a' : Nat → Nat}
theorem zsc_0 {f p : Nat} : zsc a f 0 p = some p := by cases f <;> rfl
theorem zsc_more : ∀ {f k p e : Nat}, zsc a f k p = some e → ∀ g, zsc a (f + g) k p = some e := by
  intro f
  induction f with
  | zero =>
    intro k p e h g
    cases k with
    | zero => rw [zsc_0] at h ⊢; exact h
    | succ k => cases h
  | succ f ih =>
    intro k p e h g
    cases k with
    | zero => rw [zsc_0] at h ⊢; exact h
    | succ k => rw [show f + 1 + g = (f + g) + 1 by omega]; exact ih (k := k + a p) h g
theorem zS_uni {k p e e' : Nat} (h : zS a k p e) (h' : zS a k p e') : e = e' := by
  obtain ⟨f, h⟩ := h
  obtain ⟨f', h'⟩ := h'
  have h1 := zsc_more h f'
  have h2 := zsc_more h' f
  rw [Nat.add_comm f' f, h1] at h2
  cases h2
  rfl
theorem zS_0 {p : Nat} : zS a 0 p p := ⟨0, rfl⟩
theorem zS_0' {p e : Nat} (h : zS a 0 p e) : p = e := by obtain ⟨f, h⟩ := h; rw [zsc_0] at h; cases h; rfl
theorem zS_s {k p e : Nat} (h : zS a (k + a p) (p + 1) e) : zS a (k + 1) p e := by obtain ⟨f, h⟩ := h; exact ⟨f + 1, h⟩
theorem zS_s' {k p e : Nat} (h : zS a (k + 1) p e) : zS a (k + a p) (p + 1) e := by
  obtain ⟨f, h⟩ := h
  cases f with
  | zero => cases h
  | succ f => exact ⟨f, h⟩
theorem zS_app {j k p m e : Nat} (h : zS a j p m) (h' : zS a k m e) : zS a (j + k) p e := by
  obtain ⟨f, h⟩ := h
  induction f generalizing j p with
  | zero =>
    cases j with
    | zero => cases h; rw [Nat.zero_add]; exact h'
    | succ j => cases h
  | succ f ih =>
    cases j with
    | zero => rw [zsc_0] at h; cases h; rw [Nat.zero_add]; exact h'
    | succ j =>
      have := ih (j := j + a p) (p := p + 1) h
      rw [show j + 1 + k = (j + k) + 1 by omega]
      apply zS_s
      rwa [show j + k + a p = j + a p + k by omega]
theorem zS_1 {p m : Nat} (h : zS a (a p) (p + 1) m) : zS a 1 p m := zS_s (k := 0) (by rwa [Nat.zero_add])
theorem zS_1' {p m : Nat} (h : zS a 1 p m) : zS a (a p) (p + 1) m := by have := zS_s' (k := 0) h; rwa [Nat.zero_add] at this
theorem zS_dec {j k p e : Nat} (h : zS a (j + k) p e) : ∃ m, zS a j p m ∧ zS a k m e := by
  obtain ⟨f, h⟩ := h
  induction f generalizing j p with
  | zero =>
    cases j with
    | zero => rw [Nat.zero_add] at h; exact ⟨p, zS_0, 0, h⟩
    | succ j => rw [show j + 1 + k = (j + k) + 1 by omega] at h; cases h
  | succ f ih =>
    cases j with
    | zero => rw [Nat.zero_add] at h; exact ⟨p, zS_0, f + 1, h⟩
    | succ j =>
      rw [show j + 1 + k = (j + k) + 1 by omega] at h
      obtain ⟨m, h1, h2⟩ := ih (j := j + a p) (p := p + 1) (by rw [show j + a p + k = j + k + a p by omega]; exact h)
      exact ⟨m, zS_s h1, h2⟩
theorem zS_le {k p e : Nat} (h : zS a k p e) : p + k ≤ e := by
  obtain ⟨f, h⟩ := h
  induction f generalizing k p with
  | zero =>
    cases k with
    | zero => cases h; omega
    | succ k => cases h
  | succ f ih =>
    cases k with
    | zero => rw [zsc_0] at h; cases h; omega
    | succ k => have := ih (k := k + a p) (p := p + 1) h; omega
theorem zS_loc {k p e : Nat} (h : zS a k p e) (hl : ∀ i, p ≤ i → i < e → a' i = a i) : zS a' k p e := by
  obtain ⟨f, h⟩ := h
  induction f generalizing k p with
  | zero =>
    cases k with
    | zero => cases h; exact zS_0
    | succ k => cases h
  | succ f ih =>
    cases k with
    | zero => rw [zsc_0] at h; cases h; exact zS_0
    | succ k =>
      have h2 : zS a (k + a p) (p + 1) e := ⟨f, h⟩
      have h3 := zS_le h2
      apply zS_s
      rw [hl p (Nat.le_refl _) (by omega)]
      exact ih (fun i q1 q2 => hl i (by omega) q2) h
theorem zS_sub {k p e q : Nat} (h : zS a k p e) (h1 : p ≤ q) (h2 : q < e) : ∃ m, zS a 1 q m ∧ m ≤ e := by
  obtain ⟨f, h⟩ := h
  induction f generalizing k p with
  | zero =>
    cases k with
    | zero => cases h; omega
    | succ k => cases h
  | succ f ih =>
    cases k with
    | zero => rw [zsc_0] at h; cases h; omega
    | succ k =>
      by_cases hq : q = p
      · subst hq
        obtain ⟨m, m1, m2⟩ := zS_dec (j := 1) (k := k) (by rw [Nat.add_comm]; exact ⟨f + 1, h⟩)
        exact ⟨m, m1, by have := zS_le m2; omega⟩
      · exact ih (k := k + a p) (p := p + 1) (show p + 1 ≤ q by omega) h
end TR
/-! what is read has the form of terms -/
theorem znb_mono {so : Nat → Nat} {v w : Nat} (h : v ≤ w) : ∀ c, znb so v c ≤ znb so w c := by
  intro c
  induction c with
  | zero => exact Nat.le_refl _
  | succ c ih => simp only [znb]; split <;> split <;> omega
theorem znb_new {so : Nat → Nat} {v c sd : Nat} (h : v ≤ sd) : znb (va_up so c sd) v (c + 1) = znb so v c := znb_ext (c + 1) (by omega) (fun i hi => by simp [va_up, show ¬ i = c by omega]) (fun i h1 h2 => by simp [va_up, show i = c by omega]; exact h)
/-- kd: the kind of each token -/
def zTr (kd : Nat → Nat) (s : tP) : Prop := match s with
  | (st, d, sd, c, op, pa, nt, so) =>
    (∀ v, v < sd → zS pa 1 (znb so v c) (znb so (v + 1) c)) ∧
    (d = 0 → st < 2 → znb so sd c = c) ∧
    (d = 0 → 2 ≤ st → zS pa 1 (znb so sd c) c) ∧
    (d = 0 → st = 2 → znb so sd c + 1 = c ∧ pa (c - 1) = 0) ∧
    (0 < d → op 0 = znb so sd c) ∧
    (∀ k, k + 1 < d → ∃ m, pa (op k) = m + 1 ∧ zS pa m (op k + 1) (op (k + 1))) ∧
    (0 < d → zS pa (pa (op (d - 1))) (op (d - 1) + 1) c) ∧
    (0 < d → st = 2 → ∃ m, pa (op (d - 1)) = m + 1 ∧ zS pa m (op (d - 1) + 1) (c - 1) ∧ pa (c - 1) = 0) ∧
    (∀ i, i < c → so i ≤ sd) ∧
    (∀ i, i < c → ∀ v, so i < v ↔ i < znb so v c) ∧
    (∀ i, i < c → (kd (nt i) = 1 ∨ kd (nt i) = 2) ∧ (kd (nt i) = 2 → pa i = 0)) ∧
    (∀ k, k < d → kd (nt (op k)) = 1) ∧
    (st = 2 → 0 < c ∧ kd (nt (c - 1)) = 1)
theorem zTr_inc {op pa : Nat → Nat} {d : Nat} (F : ∀ k, k + 1 < d → ∃ m, pa (op k) = m + 1 ∧ zS pa m (op k + 1) (op (k + 1))) : ∀ j k, k + j < d → op k + j ≤ op (k + j) := by
  intro j
  induction j with
  | zero => intro k _; simp
  | succ j ih =>
    intro k h
    have h1 := ih k (by omega)
    obtain ⟨m, _, hm⟩ := F (k + j) (by omega)
    have := zS_le hm
    rw [show k + (j + 1) = k + j + 1 by omega]
    omega
theorem zTr_step {kd : Nat → Nat} {K j : Nat} {s s' : tP} (hc : ∀ k, k < s.2.1 → s.2.2.2.2.1 k < s.2.2.2.1) (hst : s.1 = 0 → s.2.1 = 0) (h : zTr kd s) (e : zps K (kd j) j s = some s') : zTr kd s' := by
  obtain ⟨st, d, sd, c, op, pa, nt, so⟩ := s
  obtain ⟨A, B, C, D, E, F, G, H, S, T, V, W, Y⟩ := h
  dsimp only at hc hst
  have hopd : 0 < d → op (d - 1) < c := fun h => hc (d - 1) (by omega)
  rcases zps_inv e with ⟨t1, q1, q2, e⟩ | ⟨t1, q1, q2, e⟩ | ⟨t1, q1, q2, e⟩ | ⟨t1, q1, q2, e⟩ | ⟨t1, q0, q1, q2, e⟩ | ⟨t1, q0, q3, q1, q2, e⟩ <;> subst e
  · -- a name
    have hnt : ∀ i, i < c → va_up nt c j i = nt i := fun i hi => by simp [va_up, show ¬ i = c by omega]
    have hS' : ∀ i, i < c + 1 → va_up so c sd i ≤ sd := fun i hi => by
      by_cases hic : i = c
      · simp [va_up, hic]
      · simp only [va_up, hic, if_false]; exact S i (by omega)
    have hT' : ∀ i, i < c + 1 → ∀ v, va_up so c sd i < v ↔ i < znb (va_up so c sd) v (c + 1) := fun i hi v => by
      by_cases hv : v ≤ sd
      · rw [znb_new hv]
        by_cases hic : i = c
        · subst hic
          have := znb_le (so := so) (v := v) i
          simp only [va_up, if_true]
          omega
        · simp only [va_up, hic, if_false]; exact T i (by omega) v
      · rw [znb_all (c + 1) (fun i hi => by have := hS' i hi; omega)]
        have := hS' i hi
        constructor
        · intro _; omega
        · intro _; omega
    have hY' : ((if kd j = 2 then 3 else 2) = 2 → 0 < c + 1 ∧ kd (va_up nt c j (c + 1 - 1)) = 1) := fun q => by
      refine ⟨by omega, ?_⟩
      rw [Nat.add_sub_cancel]
      simp only [va_up, if_true]
      rcases t1 with h | h
      · exact h
      · rw [if_pos h] at q; omega
    by_cases hd : 0 < d
    · have hst1 : st = 1 := by rcases q1 with h | h; exact h; exact absurd (hst h) (by omega)
      have ho := hopd hd
      have hinc := zTr_inc F
      have hpa : ∀ i, i ≠ c → i ≠ op (d - 1) → (if 0 < d then va_up (va_up pa c 0) (op (d - 1)) (va_up pa c 0 (op (d - 1)) + 1) else va_up pa c 0) i = pa i := fun i h1 h2 => by simp [va_up, hd, h1, h2]
      have hpo : (if 0 < d then va_up (va_up pa c 0) (op (d - 1)) (va_up pa c 0 (op (d - 1)) + 1) else va_up pa c 0) (op (d - 1)) = pa (op (d - 1)) + 1 := by simp [va_up, hd, show ¬ op (d - 1) = c by omega]
      have hpc : (if 0 < d then va_up (va_up pa c 0) (op (d - 1)) (va_up pa c 0 (op (d - 1)) + 1) else va_up pa c 0) c = 0 := by simp [va_up, hd, show ¬ c = op (d - 1) by omega]
      generalize (if 0 < d then va_up (va_up pa c 0) (op (d - 1)) (va_up pa c 0 (op (d - 1)) + 1) else va_up pa c 0) = pa1 at *
      have hG := zS_loc (a' := pa1) (G hd) (fun i h1 h2 => hpa i (by omega) (by omega))
      refine ⟨fun v hv => ?_, fun h => by omega, fun h => by omega, fun h => by omega, fun _ => by rw [znb_new (Nat.le_refl _)]; exact E hd, fun k hk => ?_, fun _ => ?_, fun _ _ => ⟨pa (op (d - 1)), hpo, ?_, ?_⟩, hS', hT', fun i hi => ?_, fun k hk => ?_, hY'⟩
      · rw [znb_new (by omega), znb_new (by omega)]
        have h1 := znb_mono (so := so) (show v + 1 ≤ sd by omega) c
        have h2 := E hd
        have h3 := hinc (d - 1) 0 (by omega)
        rw [Nat.zero_add] at h3
        exact zS_loc (A v hv) (fun i a1 a2 => hpa i (by omega) (by omega))
      · obtain ⟨m, m1, m2⟩ := F k hk
        have h3 := hinc (d - 1 - (k + 1)) (k + 1) (by omega)
        rw [show k + 1 + (d - 1 - (k + 1)) = d - 1 by omega] at h3
        have h4 := zS_le m2
        have := hc (k + 1) (by omega)
        exact ⟨m, by rw [hpa (op k) (by omega) (by omega)]; exact m1, zS_loc m2 (fun i a1 a2 => hpa i (by omega) (by omega))⟩
      · rw [hpo]
        exact zS_app hG (zS_1 (by rw [hpc]; exact zS_0))
      · rw [Nat.add_sub_cancel]; exact hG
      · rw [Nat.add_sub_cancel]; exact hpc
      · by_cases hic : i = c
        · subst hic; exact ⟨by simp only [va_up, if_true]; exact t1, fun _ => hpc⟩
        · rw [hnt i (by omega)]
          refine ⟨(V i (by omega)).1, fun h => ?_⟩
          have h5 : i ≠ op (d - 1) := fun e => by have := W (d - 1) (by omega); rw [← e] at this; omega
          rw [hpa i hic h5]
          exact (V i (by omega)).2 h
      · rw [hnt _ (by have := hc k hk; omega)]
        exact W k hk
    · have hd0 : d = 0 := by omega
      subst hd0
      have hB := B rfl (by rcases q1 with h | h <;> rw [h] <;> decide)
      have hz : znb (va_up so c sd) sd (c + 1) = c := by rw [znb_new (Nat.le_refl _)]; exact hB
      rw [if_neg hd]
      have hz1 : zS (va_up pa c 0) 1 c (c + 1) := zS_1 (by simp only [va_up, if_true]; exact zS_0)
      refine ⟨fun v hv => ?_, fun _ h => by split at h <;> omega, fun _ _ => by rw [hz]; exact hz1, fun _ _ => ⟨by rw [hz], by simp [va_up]⟩, fun h => by omega, fun k hk => by omega, fun h => by omega, fun h => by omega, hS', hT', fun i hi => ?_, fun k hk => by omega, hY'⟩
      · rw [znb_new (by omega), znb_new (by omega)]
        have h1 := znb_le (so := so) (v := v + 1) c
        exact zS_loc (A v hv) (fun i a1 a2 => by simp [va_up, show ¬ i = c by omega])
      · by_cases hic : i = c
        · subst hic; exact ⟨by simp only [va_up, if_true]; exact t1, fun _ => by simp [va_up]⟩
        · rw [hnt i (by omega)]
          simp only [va_up, hic, if_false]
          exact V i (by omega)
  · -- (
    subst q1
    obtain ⟨y1, y2⟩ := Y rfl
    have hop : ∀ k, k < d → va_up op d (c - 1) k = op k := fun k hk => by simp [va_up, show ¬ k = d by omega]
    have hod : va_up op d (c - 1) d = c - 1 := by simp [va_up]
    refine ⟨A, fun h => by omega, fun h => by omega, fun h => by omega, fun _ => ?_, fun k hk => ?_, fun _ => ?_, fun _ h => by omega, S, T, V, fun k hk => ?_, fun h => by omega⟩
    · by_cases hd : 0 < d
      · rw [hop 0 hd]; exact E hd
      · have hd0 : d = 0 := by omega
        subst hd0
        rw [hod]
        have := (D rfl rfl).1
        omega
    · by_cases hkd : k + 1 < d
      · rw [hop k (by omega), hop (k + 1) (by omega)]; exact F k hkd
      · have : d = k + 1 := by omega
        subst this
        rw [hop k (by omega), hod]
        obtain ⟨m, m1, m2, m3⟩ := H (by omega) rfl
        exact ⟨m, m1, m2⟩
    · rw [Nat.add_sub_cancel, hod]
      have hp0 : pa (c - 1) = 0 := by
        by_cases hd : 0 < d
        · obtain ⟨m, m1, m2, m3⟩ := H hd rfl; exact m3
        · exact (D (by omega) rfl).2
      rw [hp0, show c - 1 + 1 = c by omega]
      exact zS_0
    · by_cases hkd : k = d
      · subst hkd; rw [hod]; exact y2
      · rw [hop k (by omega)]; exact W k (by omega)
  · -- )
    have hG : zS pa 1 (op (d - 1)) c := zS_1 (G q1)
    refine ⟨A, fun _ h => by omega, fun h _ => ?_, fun _ h => by omega, fun h => E q1, fun k hk => F k (by omega), fun h => ?_, fun _ h => by omega, S, T, V, fun k hk => W k (by omega), fun h => by omega⟩
    · have : d = 1 := by omega
      subst this
      have := E (by omega)
      rw [← this]
      exact hG
    · obtain ⟨m, m1, m2⟩ := F (d - 1 - 1) (by omega)
      rw [m1]
      rw [show d - 1 - 1 + 1 = d - 1 by omega] at m2
      exact zS_app m2 hG
  · -- ,
    exact ⟨A, fun h => by omega, fun h => by omega, fun _ h => by omega, fun h => E q1, F, fun h => G q1, fun _ h => by omega, S, T, V, W, fun h => by omega⟩
  · -- =
    have hz : znb so (sd + 1) c = c := znb_all c (fun i hi => by have := S i hi; omega)
    refine ⟨fun v hv => ?_, fun _ _ => hz, fun _ h => by omega, fun _ h => by omega, fun h => by omega, F, fun h => by omega, fun h => by omega, fun i hi => by have := S i hi; omega, T, V, W, fun h => by omega⟩
    by_cases hvs : v = sd
    · subst hvs; rw [hz]; exact C q1 (by omega)
    · exact A v (by omega)
  · -- ;
    have hz : znb so (sd + 1) c = c := znb_all c (fun i hi => by have := S i hi; omega)
    refine ⟨fun v hv => ?_, fun _ _ => hz, fun _ h => by omega, fun _ h => by omega, fun h => by omega, F, fun h => by omega, fun h => by omega, fun i hi => by have := S i hi; omega, T, V, W, fun h => by omega⟩
    by_cases hvs : v = sd
    · subst hvs; rw [hz]; exact C q1 (by omega)
    · exact A v (by omega)
theorem zpr_tr {K : Nat} {b : Nat → Nat} {n : Nat} : ∀ j s, zpr K b n j = some s → zTr (fun i => (zt b n i).1) s ∧ (s.1 = 0 → s.2.1 = 0) := by
  intro j
  induction j with
  | zero =>
    intro s h
    cases h
    refine ⟨⟨fun v hv => by omega, fun _ _ => rfl, fun _ h => by split at h <;> omega, fun _ h => by split at h <;> omega, fun h => by omega, fun k hk => by omega, fun h => by omega, fun h => by omega, fun i hi => by omega, fun i hi => by omega, fun i hi => by omega, fun k hk => by omega, fun h => by split at h <;> omega⟩, fun _ => rfl⟩
  | succ j ih =>
    intro s h
    simp only [zpr] at h
    split at h
    · cases h
    · rename_i s0 hs0
      obtain ⟨i1, i2⟩ := ih s0 hs0
      have hw := (zpr_wf j s0 hs0).1
      refine ⟨zTr_step (kd := fun i => (zt b n i).1) hw.2.2.2.2.2.1 i2 i1 h, ?_⟩
      obtain ⟨st, d, sd, c, op, pa, nt, so⟩ := s0
      rcases zps_inv h with ⟨_, q, _, e⟩ | ⟨_, q, _, e⟩ | ⟨_, _, q, e⟩ | ⟨_, _, q, e⟩ | ⟨_, _, _, q, e⟩ | ⟨_, _, _, q1, q, e⟩ <;> subst e <;> dsimp only <;> intro h0
      · split at h0 <;> omega
      · omega
      · omega
      · omega
      · omega
      · exact q1
