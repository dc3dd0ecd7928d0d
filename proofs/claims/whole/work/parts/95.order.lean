/-! an order of the symbols: what is above what, in tables over the places of a rule's sides -/
def yan (P : Nat → Bool) : Nat → Bool
  | 0 => false
  | n + 1 => yan P n || P n
def yal (P : Nat → Bool) : Nat → Bool
  | 0 => true
  | n + 1 => yal P n && P n
/-- the first that isn't like decides -/
def ylx (L A : Nat → Bool) : Nat → Nat → Bool
  | 0, _ => false
  | m + 1, i => if L i = true then ylx L A m (i + 1) else A i
theorem yan_t {P : Nat → Bool} : ∀ {n}, yan P n = true ↔ ∃ i, i < n ∧ P i = true
  | 0 => by simp [yan]
  | n + 1 => by
    simp only [yan, Bool.or_eq_true, yan_t (n := n)]
    constructor
    · rintro (⟨i, h1, h2⟩ | h)
      · exact ⟨i, by omega, h2⟩
      · exact ⟨n, by omega, h⟩
    · rintro ⟨i, h1, h2⟩
      rcases Nat.lt_or_ge i n with q | q
      · exact Or.inl ⟨i, q, h2⟩
      · have : i = n := by omega
        subst this; exact Or.inr h2
theorem yan_c {P P' : Nat → Bool} : ∀ {n}, (∀ i, i < n → P i = P' i) → yan P n = yan P' n
  | 0, _ => rfl
  | n + 1, h => by simp only [yan]; rw [yan_c (n := n) (fun i hi => h i (by omega)), h n (by omega)]
theorem yal_c {P P' : Nat → Bool} : ∀ {n}, (∀ i, i < n → P i = P' i) → yal P n = yal P' n
  | 0, _ => rfl
  | n + 1, h => by simp only [yal]; rw [yal_c (n := n) (fun i hi => h i (by omega)), h n (by omega)]
theorem yal_f {P : Nat → Bool} : ∀ {n i}, i < n → P i = false → yal P n = false
  | n + 1, i, hi, h => by
    simp only [yal]
    rcases Nat.lt_or_ge i n with q | q
    · rw [yal_f q h]; rfl
    · have : i = n := by omega
      subst this; rw [h]; exact Bool.and_false _
theorem yan_0 {P : Nat → Bool} {n : Nat} (h : ∀ i, i < n → P i = false) : yan P n = false := by
  cases hx : yan P n with
  | false => rfl
  | true => obtain ⟨i, h1, h2⟩ := yan_t.mp hx; rw [h i h1] at h2; cases h2
theorem ylx_c {L L' A A' : Nat → Bool} : ∀ {m i}, (∀ j, i ≤ j → j < i + m → L j = L' j ∧ A j = A' j) → ylx L A m i = ylx L' A' m i
  | 0, i, _ => rfl
  | m + 1, i, h => by
    simp only [ylx]
    rw [(h i (by omega) (by omega)).1, (h i (by omega) (by omega)).2, ylx_c (m := m) (i := i + 1) (fun j h1 h2 => h j (by omega) (by omega))]
noncomputable def ylk (K : tK) (r p q : Nat) : Bool := @decide (zen (K.a (2 * r)) p - p = zen (K.a (2 * r + 1)) q - q ∧ ∀ k, k < zen (K.a (2 * r)) p - p → K.w (2 * r) (p + k) = K.w (2 * r + 1) (q + k)) (Classical.propDecidable _)
theorem ylk_t {K : tK} {r p q : Nat} : ylk K r p q = true ↔ (zen (K.a (2 * r)) p - p = zen (K.a (2 * r + 1)) q - q ∧ ∀ k, k < zen (K.a (2 * r)) p - p → K.w (2 * r) (p + k) = K.w (2 * r + 1) (q + k)) := by
  unfold ylk; exact @decide_eq_true_iff _ (Classical.propDecidable _)
noncomputable def yov (K : tK) (r : Nat) (bf : Nat → Nat → Bool) (A : Nat → Nat → Bool) (p q : Nat) : Bool :=
  (if K.w (2 * r) p = K.w (2 * r + 1) q then ylx (fun i => ylk K r (zcpt (K.a (2 * r)) p i) (zcpt (K.a (2 * r + 1)) q i)) (fun i => A (zcpt (K.a (2 * r)) p i) (zcpt (K.a (2 * r + 1)) q i)) (K.a (2 * r) p) 0 else bf (K.w (2 * r) p) (K.w (2 * r + 1) q)) &&
  yal (fun j => A p (zcpt (K.a (2 * r + 1)) q j)) (K.a (2 * r + 1) q)
noncomputable def yst (K : tK) (r : Nat) (bf : Nat → Nat → Bool) (A : Nat → Nat → Bool) (p q : Nat) : Bool :=
  if 100 ≤ K.w (2 * r) p then false else
  yan (fun i => ylk K r (zcpt (K.a (2 * r)) p i) q || A (zcpt (K.a (2 * r)) p i) q) (K.a (2 * r) p) ||
  (if 100 ≤ K.w (2 * r + 1) q then false else yov K r bf A p q)
noncomputable def yab (K : tK) (r : Nat) (bf : Nat → Nat → Bool) : Nat → Nat → Nat → Bool
  | 0, _, _ => false
  | f + 1, p, q => yst K r bf (yab K r bf f) p q
theorem yab_s {K : tK} {r : Nat} {bf : Nat → Nat → Bool} {f p q : Nat} : yab K r bf (f + 1) p q = yst K r bf (yab K r bf f) p q := rfl
theorem zKv_c {K : tK} (hK : zKv K) {s : Nat} (hs : s < 2 * K.rd) {p : Nat} (hp : p < K.n s) : zS (K.a s) 1 p (zen (K.a s) p) ∧ zen (K.a s) p ≤ K.n s ∧ ∀ i, i < K.a s p → p < zcpt (K.a s) p i ∧ zcpt (K.a s) p i < K.n s ∧ zcpt (K.a s) p i < zcpt (K.a s) p (i + 1) ∧ zcpt (K.a s) p (i + 1) ≤ zen (K.a s) p ∧ zen (K.a s) (zcpt (K.a s) p i) = zcpt (K.a s) p (i + 1) := by
  obtain ⟨e, h1, h2⟩ := (zKv_e hK hs).2 p hp
  rw [zen_eq h1]
  refine ⟨h1, h2, fun i hi => ?_⟩
  obtain ⟨c1, c2, c3, c4⟩ := zcpt_1 h1 hi
  exact ⟨c2, by omega, c3, c4, rfl⟩
theorem yst_c {K : tK} (hK : zKv K) {r : Nat} (hr : r < K.rd) {bf : Nat → Nat → Bool} {A B : Nat → Nat → Bool} {p q : Nat} (hp : p < K.n (2 * r)) (hq : q < K.n (2 * r + 1)) (h : ∀ p' q', p ≤ p' → q ≤ q' → p + q < p' + q' → p' < K.n (2 * r) → q' < K.n (2 * r + 1) → A p' q' = B p' q') : yst K r bf A p q = yst K r bf B p q := by
  obtain ⟨_, _, c1⟩ := zKv_c hK (s := 2 * r) (by omega) hp
  obtain ⟨_, _, c2⟩ := zKv_c hK (s := 2 * r + 1) (by omega) hq
  unfold yst yov
  split
  · rfl
  · congr 1
    · exact yan_c (fun i hi => by obtain ⟨d1, d2, _⟩ := c1 i hi; rw [h _ q (by omega) (Nat.le_refl _) (by omega) d2 hq])
    · split
      · rfl
      · congr 1
        · split
          · rename_i he
            refine ylx_c (fun j _ hj => ⟨rfl, ?_⟩)
            obtain ⟨d1, d2, _⟩ := c1 j (by omega)
            have : K.a (2 * r + 1) q = K.a (2 * r) p := by unfold tK.a; rw [he]
            obtain ⟨e1, e2, _⟩ := c2 j (by omega)
            exact h _ _ (by omega) (by omega) (by omega) d2 e2
          · rfl
        · exact yal_c (fun j hj => by obtain ⟨d1, d2, _⟩ := c2 j hj; exact h p _ (Nat.le_refl _) (by omega) (by omega) hp d2)
theorem yab_m {K : tK} (hK : zKv K) {r : Nat} (hr : r < K.rd) {bf : Nat → Nat → Bool} : ∀ f f' p q, p < K.n (2 * r) → q < K.n (2 * r + 1) → (K.n (2 * r) - p) + (K.n (2 * r + 1) - q) ≤ f → (K.n (2 * r) - p) + (K.n (2 * r + 1) - q) ≤ f' → yab K r bf f p q = yab K r bf f' p q
  | 0, f', p, q, hp, hq, h1, h2 => by omega
  | f + 1, 0, p, q, hp, hq, h1, h2 => by omega
  | f + 1, f' + 1, p, q, hp, hq, h1, h2 => by
    simp only [yab]
    exact yst_c hK hr hp hq (fun p' q' g1 g2 g3 g4 g5 => yab_m hK hr f f' p' q' g4 g5 (by omega) (by omega))
/-- the table of a rule -/
noncomputable def ytb (K : tK) (r : Nat) (bf : Nat → Nat → Bool) (p q : Nat) : Bool := yab K r bf 100 p q
theorem ytb_e {K : tK} (hK : zKv K) {r : Nat} (hr : r < K.rd) {bf : Nat → Nat → Bool} {p q : Nat} (hp : p < K.n (2 * r)) (hq : q < K.n (2 * r + 1)) : ytb K r bf p q = yst K r bf (ytb K r bf) p q := by
  have h1 := (hK.2.2.2.1 (2 * r) (by omega)).2.2.1
  have h2 := (hK.2.2.2.1 (2 * r + 1) (by omega)).2.2.1
  show yab K r bf 100 p q = yst K r bf (yab K r bf 100) p q
  rw [yab_m hK hr 100 101 p q hp hq (by omega) (by omega)]
  exact yab_s (f := 100)
theorem ytb_v {K : tK} {r : Nat} {bf : Nat → Nat → Bool} {p q : Nat} (hK : zKv K) (hr : r < K.rd) (hp : p < K.n (2 * r)) (hq : q < K.n (2 * r + 1)) (h : 100 ≤ K.w (2 * r) p) : ytb K r bf p q = false := by
  rw [ytb_e hK hr hp hq, yst, if_pos h]
/-- a place in a node's parts is in one of them -/
theorem zcpt_in {a : Nat → Nat} {p e k : Nat} (h : zS a 1 p e) (h1 : p + 1 ≤ k) (h2 : k < e) : ∃ i, i < a p ∧ zcpt a p i ≤ k ∧ k < zcpt a p (i + 1) := by
  have key : ∀ m, m ≤ a p → zcpt a p m ≤ k ∨ ∃ i, i < a p ∧ zcpt a p i ≤ k ∧ k < zcpt a p (i + 1) := by
    intro m
    induction m with
    | zero => intro _; exact Or.inl h1
    | succ m ih =>
      intro hm
      rcases ih (by omega) with q | q
      · rcases Nat.lt_or_ge k (zcpt a p (m + 1)) with g | g
        · exact Or.inr ⟨m, by omega, q, g⟩
        · exact Or.inl g
      · exact Or.inr q
  rcases key (a p) (Nat.le_refl _) with q | q
  · rw [zcpt_e h] at q; omega
  · exact q
/-- a variable's place: above is what has it -/
theorem ytb_has {K : tK} (hK : zKv K) {r : Nat} (hr : r < K.rd) {bf : Nat → Nat → Bool} {q : Nat} (hq : q < K.n (2 * r + 1)) (hv : 100 ≤ K.w (2 * r + 1) q) : ∀ f p, K.n (2 * r) - p ≤ f → p < K.n (2 * r) → K.w (2 * r) p < 100 → (ytb K r bf p q = true ↔ ∃ k, p ≤ k ∧ k < zen (K.a (2 * r)) p ∧ K.w (2 * r) k = K.w (2 * r + 1) q)
  | 0, p, h1, h2, _ => by omega
  | f + 1, p, h1, h2, h3 => by
    obtain ⟨z1, z2, z3⟩ := zKv_c hK (s := 2 * r) (by omega) h2
    have hq1 : zen (K.a (2 * r + 1)) q = q + 1 := by
      apply zen_eq
      apply zS_1
      have : K.a (2 * r + 1) q = 0 := by unfold tK.a; exact zar_v hv
      rw [this]
      exact zS_0
    rw [ytb_e hK hr h2 hq, yst, if_neg (by omega), if_pos hv, Bool.or_false, yan_t]
    constructor
    · rintro ⟨i, hi, hx⟩
      obtain ⟨d1, d2, d3, d4, d5⟩ := z3 i hi
      rw [Bool.or_eq_true] at hx
      rcases hx with hx | hx
      · obtain ⟨l1, l2⟩ := ylk_t.mp hx
        have := l2 0 (by omega)
        exact ⟨_, by omega, by omega, this⟩
      · by_cases hc : K.w (2 * r) (zcpt (K.a (2 * r)) p i) < 100
        · obtain ⟨k, k1, k2, k3⟩ := (ytb_has hK hr hq hv f _ (by omega) d2 hc).mp hx
          exact ⟨k, by omega, by omega, k3⟩
        · rw [ytb_v hK hr d2 hq (by omega)] at hx; cases hx
    · rintro ⟨k, k1, k2, k3⟩
      have hkp : k ≠ p := fun hx => by subst hx; omega
      obtain ⟨i, i1, i2, i3⟩ := zcpt_in z1 (by omega) k2
      obtain ⟨d1, d2, d3, d4, d5⟩ := z3 i i1
      refine ⟨i, i1, ?_⟩
      rw [Bool.or_eq_true]
      by_cases hc : K.w (2 * r) (zcpt (K.a (2 * r)) p i) < 100
      · exact Or.inr ((ytb_has hK hr hq hv f _ (by omega) d2 hc).mpr ⟨k, i2, by omega, k3⟩)
      · left
        have e1 : zen (K.a (2 * r)) (zcpt (K.a (2 * r)) p i) = zcpt (K.a (2 * r)) p i + 1 := by
          apply zen_eq
          apply zS_1
          have : K.a (2 * r) (zcpt (K.a (2 * r)) p i) = 0 := zar_v (sa := K.sa) (Nat.le_of_not_lt hc)
          rw [this]
          exact zS_0
        have e2 : k = zcpt (K.a (2 * r)) p i := by omega
        refine ylk_t.mpr ⟨by omega, fun j hj => ?_⟩
        have : j = 0 := by omega
        subst this
        rw [Nat.add_zero, Nat.add_zero, ← e2]; exact k3
/-! rows of the symbols -/
def yfi (o : List Nat) : Nat → Option Nat
  | 0 => none
  | i + 1 => if o.getD (i + 1) 0 < o.getD i 0 then yfi o i else some i
def yfj (o : List Nat) (i : Nat) : Nat → Nat
  | 0 => 0
  | j + 1 => if o.getD (j + 1) 0 < o.getD i 0 then yfj o i j else j + 1
def ysw (o : List Nat) (i j : Nat) : List Nat := (o.set i (o.getD j 0)).set j (o.getD i 0)
def yrv : Nat → List Nat → Nat → Nat → List Nat
  | 0, o, _, _ => o
  | f + 1, o, a, b => if a < b then yrv f (ysw o a b) (a + 1) (b - 1) else o
/-- the next row; none behind the last -/
def ynx (n : Nat) (o : List Nat) : Option (List Nat) := match yfi o (n - 1) with
  | none => none
  | some i => some (yrv 6 (ysw o i (yfj o i (n - 1))) (i + 1) (n - 1))
def ygd (n : Nat) (o : List Nat) : Bool := o.length == n && (List.range n).all (fun i => decide (o.getD i 0 < n) && (List.range n).any (fun j => o.getD j 0 == i) && (List.range n).all (fun j => j == i || o.getD j 0 != o.getD i 0)) && (match yfi o (n - 1) with | none => true | some i => decide (i < yfj o i (n - 1)))
def yck (n : Nat) : Nat → List Nat → Bool
  | 0, _ => false
  | f + 1, o => ygd n o && match ynx n o with
    | none => true
    | some o' => yck n f o'
theorem yck_all : ∀ n, n < 7 → yck n 720 (List.range n) = true := by decide +kernel
theorem ygd_s {n : Nat} {o : List Nat} (h : ygd n o = true) : o.length = n ∧ (∀ i, i < n → o.getD i 0 < n) ∧ (∀ f, f < n → ∃ i, i < n ∧ o.getD i 0 = f) ∧ (∀ i j, i < n → j < n → o.getD i 0 = o.getD j 0 → i = j) ∧ (∀ i, yfi o (n - 1) = some i → i < yfj o i (n - 1)) := by
  unfold ygd at h
  rw [Bool.and_eq_true, Bool.and_eq_true] at h
  obtain ⟨⟨h1, h2⟩, h3⟩ := h
  rw [List.all_eq_true] at h2
  have h4 : ∀ i, i < n → o.getD i 0 < n ∧ (∃ j, j < n ∧ o.getD j 0 = i) ∧ ∀ j, j < n → j = i ∨ o.getD j 0 ≠ o.getD i 0 := by
    intro i hi
    have := h2 i (List.mem_range.mpr hi)
    rw [Bool.and_eq_true, Bool.and_eq_true, decide_eq_true_iff, List.any_eq_true, List.all_eq_true] at this
    obtain ⟨⟨a, ⟨j, b1, b2⟩⟩, c⟩ := this
    refine ⟨a, ⟨j, List.mem_range.mp b1, by simpa using b2⟩, fun j hj => ?_⟩
    have := c j (List.mem_range.mpr hj)
    rw [Bool.or_eq_true] at this
    rcases this with q | q
    · exact Or.inl (by simpa using q)
    · exact Or.inr (by simpa using q)
  refine ⟨by simpa using h1, fun i hi => (h4 i hi).1, fun f hf => (h4 f hf).2.1, fun i j hi hj e => ?_, fun i hi => ?_⟩
  · rcases (h4 j hj).2.2 i hi with q | q
    · exact q
    · exact absurd e q
  · rw [hi] at h3
    simpa using h3
theorem yck_s {n f : Nat} {o : List Nat} (h : yck n f o = true) : 0 < f ∧ ygd n o = true ∧ ∀ o', ynx n o = some o' → yck n (f - 1) o' = true := by
  cases f with
  | zero => cases h
  | succ f =>
    simp only [yck, Bool.and_eq_true] at h
    refine ⟨by omega, h.1, fun o' ho => ?_⟩
    have := h.2
    rw [ho] at this
    exact this
/-- the first row that P takes -/
def yfo (P : List Nat → Bool) (n : Nat) : Nat → List Nat → Option (List Nat)
  | 0, _ => none
  | f + 1, o => if P o = true then some o else match ynx n o with
    | none => none
    | some o' => yfo P n f o'
/-- the rows from o on -/
def ysq (n : Nat) (o : List Nat) : Nat → List Nat
  | 0 => o
  | k + 1 => (ynx n (ysq n o k)).getD (ysq n o k)
def ycn (n : Nat) (o : List Nat) (k : Nat) : Prop := ∀ j, j < k → ynx n (ysq n o j) = some (ysq n o (j + 1))
theorem ysq_s {n : Nat} {o o' : List Nat} {k : Nat} (h : ynx n (ysq n o k) = some o') : ysq n o (k + 1) = o' := by simp only [ysq, h]; rfl
theorem ysq_1 {n : Nat} {o o' : List Nat} (h : ynx n o = some o') : ∀ k, ysq n o (k + 1) = ysq n o' k
  | 0 => by simp only [ysq, h]; rfl
  | k + 1 => by
    show (ynx n (ysq n o (k + 1))).getD (ysq n o (k + 1)) = (ynx n (ysq n o' k)).getD (ysq n o' k)
    rw [ysq_1 h k]
theorem yck_q {n : Nat} : ∀ {k f : Nat} {o : List Nat}, yck n f o = true → ycn n o k → k < f ∧ yck n (f - k) (ysq n o k) = true
  | 0, f, o, h, _ => ⟨(yck_s h).1, h⟩
  | k + 1, f, o, h, hc => by
    obtain ⟨h1, h2⟩ := yck_q (k := k) h (fun j hj => hc j (by omega))
    obtain ⟨h3, h4, h5⟩ := yck_s h2
    have := h5 _ (hc k (by omega))
    have h6 := (yck_s this).1
    refine ⟨by omega, ?_⟩
    rw [show f - (k + 1) = f - k - 1 by omega]
    exact this
theorem yfo_q {P : List Nat → Bool} {n : Nat} : ∀ {k f : Nat} {o : List Nat}, ycn n o k → (∀ j, j < k → P (ysq n o j) = false) → yfo P n (f + k) o = yfo P n f (ysq n o k)
  | 0, f, o, _, _ => rfl
  | k + 1, f, o, hc, hP => by
    have h0 := hc 0 (by omega)
    have p0 := hP 0 (by omega)
    simp only [ysq] at h0 p0
    have h1 : ynx n o = some ((ynx n o).getD o) := h0
    show yfo P n (f + k + 1) o = _
    simp only [yfo, p0]
    rw [if_neg (by decide), h1]
    dsimp only
    rw [yfo_q (k := k) (o := (ynx n o).getD o) (fun j hj => ?_) (fun j hj => ?_), ← ysq_1 h1 k]
    · have := hc (j + 1) (by omega)
      rwa [ysq_1 h1 j, ysq_1 h1 (j + 1)] at this
    · have := hP (j + 1) (by omega)
      rwa [ysq_1 h1 j] at this
noncomputable def ybf (n : Nat) (o : List Nat) (f g : Nat) : Bool := @decide (∃ p q, p < q ∧ q < n ∧ o.getD p 0 = f ∧ o.getD q 0 = g) (Classical.propDecidable _)
theorem ybf_t {n : Nat} {o : List Nat} {f g : Nat} : ybf n o f g = true ↔ ∃ p q, p < q ∧ q < n ∧ o.getD p 0 = f ∧ o.getD q 0 = g := by
  unfold ybf; exact @decide_eq_true_iff _ (Classical.propDecidable _)
/-- by a row all rules end -/
noncomputable def yor (K : tK) (o : List Nat) : Bool := yal (fun r => ytb K r (ybf K.sc o) 0 0) K.rd
/-- the order that is found -/
noncomputable def yfd (K : tK) : Option (List Nat) := yfo (yor K) K.sc 720 (List.range K.sc)
theorem ysw_len {o : List Nat} {i j : Nat} : (ysw o i j).length = o.length := by simp [ysw]
theorem ysw_get {o : List Nat} {i j k : Nat} (hi : i < o.length) (hj : j < o.length) : (ysw o i j).getD k 0 = if k = j then o.getD i 0 else if k = i then o.getD j 0 else o.getD k 0 := by
  simp only [ysw, List.getD_eq_getElem?_getD, List.getElem?_set, List.length_set]
  by_cases h1 : k = j
  · subst h1; simp [hj]
  · rw [if_neg (fun h => h1 h.symm), if_neg h1]
    by_cases h2 : k = i
    · subst h2; simp [hi]
    · rw [if_neg (fun h => h2 h.symm), if_neg h2]
theorem yrv_len : ∀ f o a b, (yrv f o a b).length = o.length
  | 0, o, a, b => rfl
  | f + 1, o, a, b => by
    simp only [yrv]
    split
    · rw [yrv_len, ysw_len]
    · rfl
/-- the depends of a table on the order of the symbols alone -/
theorem yst_bf {K : tK} (hK : zKv K) {r : Nat} (hr : r < K.rd) {bf bg : Nat → Nat → Bool} (h : ∀ f g, f < K.sc → g < K.sc → bf f g = bg f g) {A : Nat → Nat → Bool} {p q : Nat} (hp : p < K.n (2 * r)) (hq : q < K.n (2 * r + 1)) : yst K r bf A p q = yst K r bg A p q := by
  have h1 := (hK.2.2.2.1 (2 * r) (by omega)).2.2.2 p hp
  have h2 := (hK.2.2.2.1 (2 * r + 1) (by omega)).2.2.2 q hq
  unfold yst yov
  split
  · rfl
  · congr 1
    split
    · rfl
    · congr 1
      split
      · rfl
      · exact h _ _ (by omega) (by omega)
theorem yab_bf {K : tK} (hK : zKv K) {r : Nat} (hr : r < K.rd) {bf bg : Nat → Nat → Bool} (h : ∀ f g, f < K.sc → g < K.sc → bf f g = bg f g) : ∀ m p q, p < K.n (2 * r) → q < K.n (2 * r + 1) → yab K r bf m p q = yab K r bg m p q
  | 0, p, q, _, _ => rfl
  | m + 1, p, q, hp, hq => by
    rw [yab_s, yab_s, yst_bf hK hr h hp hq]
    exact yst_c hK hr hp hq (fun p' q' _ _ _ g4 g5 => yab_bf hK hr h m p' q' g4 g5)
theorem yal_tb {K : tK} (hK : zKv K) {bf bg : Nat → Nat → Bool} (h : ∀ f g, f < K.sc → g < K.sc → bf f g = bg f g) : yal (fun r => ytb K r bf 0 0) K.rd = yal (fun r => ytb K r bg 0 0) K.rd :=
  yal_c (fun r hr => yab_bf hK hr h 100 0 0 (by have := zS_le (zKv_e hK (s := 2 * r) (by omega)).1; omega) (by have := zS_le (zKv_e hK (s := 2 * r + 1) (by omega)).1; omega))
