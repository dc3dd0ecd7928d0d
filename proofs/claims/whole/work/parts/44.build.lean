/-! the rules, node by node: symbols (count, names, parts), the rule's variables (count, names), of each side how many nodes and their codes (a variable's code is 100 and its number), of each rule how many variables and where each stands first -/
abbrev tB : Type := Nat × (Nat → List Nat) × (Nat → Nat) × Nat × (Nat → List Nat) × (Nat → Nat) × (Nat → Nat → Nat) × (Nat → Nat) × (Nat → Nat → Nat)
def zB0 : tB := (0, fun _ => [], fun _ => 0, 0, fun _ => [], fun _ => 0, fun _ _ => 0, fun _ => 0, fun _ _ => 0)
def zbv (l : List Nat) (v : Bool) (pk s : Nat) (B : tB) : Option (Nat × tB) := match B with
  | (sc, sn, sa, vc, vn, cnt, cod, nv, fa) =>
    if v then match zfn vn l vc with
      | some k => some (100 + k, (sc, sn, sa, vc, vn, cnt, cod, nv, fa))
      | none => if s % 2 = 1 ∨ cnt s = 0 then none else some (100 + vc, (sc, sn, sa, vc + 1, va_up vn vc l, cnt, cod, va_up nv (s / 2) (vc + 1), va_up fa (s / 2) (va_up (fa (s / 2)) vc (cnt s))))
    else match zfn sn l sc with
      | some i => if sa i = pk then some (i, (sc, sn, sa, vc, vn, cnt, cod, nv, fa)) else none
      | none => if sc < 6 then some (sc, (sc + 1, va_up sn sc l, va_up sa sc pk, vc, vn, cnt, cod, nv, fa)) else none
def zbt (l : List Nat) (v : Bool) (pk s : Nat) (B : tB) : Option tB := match B with
  | (sc, sn, sa, vc, vn, cnt, cod, nv, fa) =>
    if 20 ≤ s / 2 then none else if 40 ≤ cnt s then none else
    match zbv l v pk s (sc, sn, sa, if cnt s = 0 ∧ s % 2 = 0 then 0 else vc, vn, cnt, cod, nv, fa) with
    | none => none
    | some (x, (sc, sn, sa, vc, vn, cnt, cod, nv, fa)) => some (sc, sn, sa, vc, vn, va_up cnt s (cnt s + 1), va_up cod s (va_up (cod s) (cnt s) x), nv, fa)
def zbd (nm : Nat → List Nat) (iv : Nat → Bool) (pa so : Nat → Nat) : Nat → Option tB
  | 0 => some zB0
  | k + 1 => match zbd nm iv pa so k with
    | none => none
    | some B => zbt (nm k) (iv k) (pa k) (so k) B
theorem zbt_inv {l : List Nat} {v : Bool} {pk s sc vc : Nat} {sn vn : Nat → List Nat} {sa cnt nv : Nat → Nat} {cod fa : Nat → Nat → Nat} {B' : tB} (h : zbt l v pk s (sc, sn, sa, vc, vn, cnt, cod, nv, fa) = some B') :
    s / 2 < 20 ∧ cnt s < 40 ∧
    ((v = true ∧ ∃ k, zfn vn l (if cnt s = 0 ∧ s % 2 = 0 then 0 else vc) = some k ∧ B' = (sc, sn, sa, (if cnt s = 0 ∧ s % 2 = 0 then 0 else vc), vn, va_up cnt s (cnt s + 1), va_up cod s (va_up (cod s) (cnt s) (100 + k)), nv, fa))
    ∨ (v = true ∧ zfn vn l (if cnt s = 0 ∧ s % 2 = 0 then 0 else vc) = none ∧ s % 2 = 0 ∧ cnt s ≠ 0 ∧ B' = (sc, sn, sa, vc + 1, va_up vn vc l, va_up cnt s (cnt s + 1), va_up cod s (va_up (cod s) (cnt s) (100 + vc)), va_up nv (s / 2) (vc + 1), va_up fa (s / 2) (va_up (fa (s / 2)) vc (cnt s))))
    ∨ (v = false ∧ ∃ i, zfn sn l sc = some i ∧ sa i = pk ∧ B' = (sc, sn, sa, (if cnt s = 0 ∧ s % 2 = 0 then 0 else vc), vn, va_up cnt s (cnt s + 1), va_up cod s (va_up (cod s) (cnt s) i), nv, fa))
    ∨ (v = false ∧ zfn sn l sc = none ∧ sc < 6 ∧ B' = (sc + 1, va_up sn sc l, va_up sa sc pk, (if cnt s = 0 ∧ s % 2 = 0 then 0 else vc), vn, va_up cnt s (cnt s + 1), va_up cod s (va_up (cod s) (cnt s) sc), nv, fa))) := by
  simp only [zbt] at h
  by_cases h1 : 20 ≤ s / 2
  · rw [if_pos h1] at h; cases h
  · rw [if_neg h1] at h
    by_cases h2 : 40 ≤ cnt s
    · rw [if_pos h2] at h; cases h
    · rw [if_neg h2] at h
      refine ⟨by omega, by omega, ?_⟩
      cases v with
      | true =>
        simp only [zbv, if_true] at h
        cases hz : zfn vn l (if cnt s = 0 ∧ s % 2 = 0 then 0 else vc) with
        | some k =>
          rw [hz] at h
          cases h
          exact Or.inl ⟨rfl, k, rfl, rfl⟩
        | none =>
          rw [hz] at h
          dsimp only at h
          by_cases h3 : s % 2 = 1 ∨ cnt s = 0
          · rw [if_pos h3] at h; cases h
          · rw [if_neg h3] at h
            have h4 : ¬ (cnt s = 0 ∧ s % 2 = 0) := by omega
            rw [if_neg h4] at h
            cases h
            exact Or.inr (Or.inl ⟨rfl, rfl, by omega, by omega, rfl⟩)
      | false =>
        simp only [zbv] at h
        rw [if_neg (by decide)] at h
        cases hz : zfn sn l sc with
        | some i =>
          rw [hz] at h
          dsimp only at h
          by_cases h3 : sa i = pk
          · rw [if_pos h3] at h; cases h; exact Or.inr (Or.inr (Or.inl ⟨rfl, i, rfl, h3, rfl⟩))
          · rw [if_neg h3] at h; cases h
        | none =>
          rw [hz] at h
          dsimp only at h
          by_cases h3 : sc < 6
          · rw [if_pos h3] at h; cases h; exact Or.inr (Or.inr (Or.inr ⟨rfl, rfl, h3, rfl⟩))
          · rw [if_neg h3] at h; cases h
/-- the sides follow each other -/
def zch (so : Nat → Nat) (c : Nat) : Prop := (0 < c → so 0 = 0) ∧ ∀ k, k + 1 < c → so k ≤ so (k + 1) ∧ so (k + 1) ≤ so k + 1
theorem zch_le {so : Nat → Nat} {c : Nat} (h : zch so c) : ∀ d i, i + d < c → so i ≤ so (i + d) := by
  intro d
  induction d with
  | zero => intro i _; exact Nat.le_refl _
  | succ d ih =>
    intro i hi
    have h1 := ih i (by omega)
    have h2 := (h.2 (i + d) (by omega)).1
    rw [show i + (d + 1) = i + d + 1 by omega]
    omega
theorem zch_mono {so : Nat → Nat} {c i j : Nat} (h : zch so c) (h1 : i ≤ j) (h2 : j < c) : so i ≤ so j := by
  have := zch_le h (j - i) i (by omega)
  rwa [show i + (j - i) = j by omega] at this
theorem zch_T {so : Nat → Nat} {c : Nat} (h : zch so c) : ∀ k, k ≤ c → ∀ i, i < k → ∀ v, so i < v ↔ i < znb so v k := by
  intro k
  induction k with
  | zero => intro _ i hi; omega
  | succ k ih =>
    intro hk i hi v
    have h0 := znb_le (so := so) (v := v) k
    simp only [znb]
    by_cases hik : i = k
    · subst hik
      by_cases hv : so i < v
      · rw [if_pos hv]
        have : znb so v i = i := znb_all i (fun j hj => by have := zch_mono h (show j ≤ i by omega) (by omega); omega)
        constructor
        · intro _; omega
        · intro _; exact hv
      · rw [if_neg hv]; omega
    · have h1 := ih (by omega) i (by omega) v
      by_cases hv : so k < v
      · rw [if_pos hv]
        have h2 := zch_mono h (show i ≤ k by omega) (by omega)
        have : so i < v := by omega
        have := h1.mp this
        constructor
        · intro _; omega
        · intro _; omega
      · rw [if_neg hv]; exact h1
/-- how many of the first k nodes are in side s -/
def znq (so : Nat → Nat) (s k : Nat) : Nat := znb so (s + 1) k - znb so s k
theorem znq_s {so : Nat → Nat} {s k : Nat} : znq so s (k + 1) = znq so s k + (if so k = s then 1 else 0) := by
  have h := znb_mono (so := so) (show s ≤ s + 1 by omega) k
  simp only [znq, znb]
  repeat' split
  all_goals omega
theorem znq_cur {so : Nat → Nat} {c k : Nat} (h : zch so c) (hk : k < c) : znq so (so k) k = k - znb so (so k) k := by
  have : znb so (so k + 1) k = k := znb_all k (fun j hj => by have := zch_mono h (show j ≤ k by omega) hk; omega)
  rw [znq, this]
theorem znq_0 {so : Nat → Nat} {c k : Nat} (h : zch so c) (hk : k < c) : znq so (so k) k = 0 ↔ (k = 0 ∨ so (k - 1) ≠ so k) := by
  rw [znq_cur h hk]
  have h1 := znb_le (so := so) (v := so k) k
  constructor
  · intro e
    by_cases hk0 : k = 0
    · exact Or.inl hk0
    · right
      intro e2
      have h2 := zch_T h k (by omega) (k - 1) (by omega) (so k)
      omega
  · rintro (e | e)
    · omega
    · by_cases hk0 : k = 0
      · omega
      · have h2 := zch_T h k (by omega) (k - 1) (by omega) (so k)
        have h3 := zch_mono h (show k - 1 ≤ k by omega) hk
        omega
def zBI (iv : Nat → Bool) (pa so : Nat → Nat) (k : Nat) (B : tB) : Prop := match B with
  | (sc, sn, sa, vc, vn, cnt, cod, nv, fa) =>
    sc ≤ 6 ∧ (∀ i, i < sc → zvn (sn i) ∧ sa i ≤ 4000) ∧ (∀ v, v < vc → zvn (vn v)) ∧
    (∀ s, cnt s = znq so s k ∧ cnt s ≤ 40 ∧ (cnt s ≠ 0 → s < 40)) ∧
    (0 < k → vc ≤ cnt (2 * (so (k - 1) / 2)) ∧ nv (so (k - 1) / 2) = vc) ∧
    (∀ r, nv r ≤ cnt (2 * r)) ∧
    (∀ i, i < k → (iv i = false → cod (so i) (i - znb so (so i) k) < sc ∧ sa (cod (so i) (i - znb so (so i) k)) = pa i) ∧ (iv i = true → 100 ≤ cod (so i) (i - znb so (so i) k) ∧ cod (so i) (i - znb so (so i) k) < 100 + nv (so i / 2))) ∧
    (∀ r v, v < nv r → 0 < fa r v ∧ fa r v < cnt (2 * r) ∧ cod (2 * r) (fa r v) = 100 + v ∧ ∀ p, p < fa r v → cod (2 * r) p < 100 + v) ∧
    (∀ r, 0 < cnt (2 * r) → cod (2 * r) 0 < 100)
theorem zBI_0 {iv : Nat → Bool} {pa so : Nat → Nat} : zBI iv pa so 0 zB0 := ⟨by decide, fun i hi => absurd hi (Nat.not_lt_zero _), fun i hi => absurd hi (Nat.not_lt_zero _), fun s => ⟨rfl, Nat.zero_le _, fun h => absurd rfl h⟩, fun h => absurd h (by decide), fun r => Nat.le_refl _, fun i hi => absurd hi (Nat.not_lt_zero _), fun r v hv => absurd hv (Nat.not_lt_zero _), fun r h => absurd h (Nat.lt_irrefl 0)⟩
theorem zBI_step {nm : Nat → List Nat} {iv : Nat → Bool} {pa so : Nat → Nat} {c k : Nat} {B B' : tB} (hs : zch so c) (hk : k < c) (hv : zvn (nm k)) (hp : pa k ≤ 4000) (h : zBI iv pa so k B) (e : zbt (nm k) (iv k) (pa k) (so k) B = some B') : zBI iv pa so (k + 1) B' := by
  obtain ⟨sc, sn, sa, vc, vn, cnt, cod, nv, fa⟩ := B
  obtain ⟨b1, b2, b3, b4, b5, b6, b7, b8, b9⟩ := h
  obtain ⟨e1, e2, e3⟩ := zbt_inv e
  have hcnt : cnt (so k) = k - znb so (so k) k := by rw [(b4 (so k)).1]; exact znq_cur hs hk
  have hf : cnt (so k) = 0 ↔ (k = 0 ∨ so (k - 1) ≠ so k) := by rw [(b4 (so k)).1]; exact znq_0 hs hk
  have hle : ∀ i, i < k → so i ≤ so k := fun i hi => zch_mono hs (by omega) hk
  have hT := zch_T hs k (by omega)
  have hzb := znb_le (so := so) (v := so k) k
  -- the counts
  have hb4 : ∀ s, va_up cnt (so k) (cnt (so k) + 1) s = znq so s (k + 1) ∧ va_up cnt (so k) (cnt (so k) + 1) s ≤ 40 ∧ (va_up cnt (so k) (cnt (so k) + 1) s ≠ 0 → s < 40) := fun s => by
    rw [znq_s, ← (b4 s).1]
    by_cases hs' : s = so k
    · subst hs'; rw [zu_s, if_pos rfl]; exact ⟨rfl, by omega, fun _ => by omega⟩
    · simp only [va_up, hs', if_false]; rw [if_neg (fun q => hs' q.symm)]; exact ⟨rfl, (b4 s).2⟩
  have hcge : ∀ s, cnt s ≤ va_up cnt (so k) (cnt (so k) + 1) s := fun s => by
    by_cases hs' : s = so k
    · subst hs'; simp [va_up]
    · simp [va_up, hs']
  have hix : ∀ i, i < k → znb so (so i) (k + 1) = znb so (so i) k := fun i hi => by simp only [znb]; rw [if_neg (by have := hle i hi; omega)]; rfl
  have hixk : k - znb so (so k) (k + 1) = cnt (so k) := by simp only [znb]; rw [if_neg (by omega), hcnt]; rfl
  -- the codes that were there
  have hcod : ∀ x s p, p < cnt s → va_up cod (so k) (va_up (cod (so k)) (cnt (so k)) x) s p = cod s p := fun x s p hp => by
    by_cases hs' : s = so k
    · subst hs'; simp [va_up, show ¬ p = cnt (so k) by omega]
    · simp [va_up, hs']
  have hcodk : ∀ x, va_up cod (so k) (va_up (cod (so k)) (cnt (so k)) x) (so k) (cnt (so k)) = x := fun x => by simp [va_up]
  have hpi : ∀ i, i < k → i - znb so (so i) k < cnt (so i) := fun i hi => by
    rw [(b4 (so i)).1]
    have q1 := (hT i hi (so i + 1)).mp (by omega)
    have q2 : ¬ i < znb so (so i) k := fun q => Nat.lt_irrefl _ ((hT i hi (so i)).mpr q)
    simp only [znq]
    omega
  -- the variables of the rule
  have hvc : (if cnt (so k) = 0 ∧ so k % 2 = 0 then 0 else vc) ≤ cnt (2 * (so k / 2)) ∧ nv (so k / 2) = (if cnt (so k) = 0 ∧ so k % 2 = 0 then 0 else vc) := by
    by_cases h0 : cnt (so k) = 0 ∧ so k % 2 = 0
    · rw [if_pos h0]
      have := b6 (so k / 2)
      rw [show 2 * (so k / 2) = so k by omega, h0.1] at this
      omega
    · rw [if_neg h0]
      have hk0 : 0 < k := by
        rcases Nat.eq_zero_or_pos k with q | q
        · exfalso
          have q1 := hf.mpr (Or.inl q)
          have q2 := hs.1 (by omega)
          rw [q] at h0 q1
          rw [q2] at h0 q1
          omega
        · exact q
      have h5 := b5 hk0
      have h6 : so (k - 1) / 2 = so k / 2 := by
        by_cases h1 : cnt (so k) = 0
        · have q := (hs.2 (k - 1) (by omega))
          rw [show k - 1 + 1 = k by omega] at q
          have := hf.mp h1
          omega
        · have : ¬ (k = 0 ∨ so (k - 1) ≠ so k) := fun q => h1 (hf.mpr q)
          have : so (k - 1) = so k := Classical.byContradiction fun q => this (Or.inr q)
          rw [this]
      rw [h6] at h5
      exact h5
  have hb3 : ∀ v, v < (if cnt (so k) = 0 ∧ so k % 2 = 0 then 0 else vc) → zvn (vn v) := fun v hv => b3 v (by split at hv <;> omega)
  have hb7 : ∀ (x sc' : Nat) (sa' nv' : Nat → Nat), sc ≤ sc' → (∀ i, i < sc → sa' i = sa i) → (∀ r, nv r ≤ nv' r) → ((iv k = false → x < sc' ∧ sa' x = pa k) ∧ (iv k = true → 100 ≤ x ∧ x < 100 + nv' (so k / 2))) → ∀ i, i < k + 1 → (iv i = false → va_up cod (so k) (va_up (cod (so k)) (cnt (so k)) x) (so i) (i - znb so (so i) (k + 1)) < sc' ∧ sa' (va_up cod (so k) (va_up (cod (so k)) (cnt (so k)) x) (so i) (i - znb so (so i) (k + 1))) = pa i) ∧ (iv i = true → 100 ≤ va_up cod (so k) (va_up (cod (so k)) (cnt (so k)) x) (so i) (i - znb so (so i) (k + 1)) ∧ va_up cod (so k) (va_up (cod (so k)) (cnt (so k)) x) (so i) (i - znb so (so i) (k + 1)) < 100 + nv' (so i / 2)) := by
    intro x sc' sa' nv' g1 g2 g3 g4 i hi
    by_cases hik : i = k
    · subst hik
      rw [hixk, hcodk]
      exact g4
    · have hi' : i < k := by omega
      rw [hix i hi', hcod x _ _ (hpi i hi')]
      obtain ⟨c1, c2⟩ := b7 i hi'
      refine ⟨fun q => ⟨by have := (c1 q).1; omega, by rw [g2 _ (c1 q).1]; exact (c1 q).2⟩, fun q => ⟨(c2 q).1, by have := (c2 q).2; have := g3 (so i / 2); omega⟩⟩
  have hb8 : ∀ x r v, v < nv r → 0 < fa r v ∧ fa r v < va_up cnt (so k) (cnt (so k) + 1) (2 * r) ∧ va_up cod (so k) (va_up (cod (so k)) (cnt (so k)) x) (2 * r) (fa r v) = 100 + v ∧ ∀ p, p < fa r v → va_up cod (so k) (va_up (cod (so k)) (cnt (so k)) x) (2 * r) p < 100 + v := fun x r v hv => by
    obtain ⟨d1, d2, d3, d4⟩ := b8 r v hv
    have := hcge (2 * r)
    exact ⟨d1, by omega, by rw [hcod x _ _ d2]; exact d3, fun p hp => by rw [hcod x _ _ (by omega)]; exact d4 p hp⟩
  have hb9 : ∀ x, (cnt (so k) = 0 → so k % 2 = 0 → x < 100) → ∀ r, 0 < va_up cnt (so k) (cnt (so k) + 1) (2 * r) → va_up cod (so k) (va_up (cod (so k)) (cnt (so k)) x) (2 * r) 0 < 100 := fun x hx r hr => by
    by_cases hc0 : 0 < cnt (2 * r)
    · rw [hcod x _ _ hc0]; exact b9 r hc0
    · by_cases hs' : 2 * r = so k
      · have q : cnt (so k) = 0 := by rw [← hs']; omega
        have := hcodk x
        rw [q] at this
        rw [hs', q, this]
        exact hx q (by omega)
      · simp only [va_up, hs', if_false] at hr; omega
  have hb6 : ∀ r, nv r ≤ va_up cnt (so k) (cnt (so k) + 1) (2 * r) := fun r => Nat.le_trans (b6 r) (hcge _)
  have hcg := hcge (2 * (so k / 2))
  rcases e3 with ⟨v1, j, v2, v3⟩ | ⟨v1, v2, v3, v4, v5⟩ | ⟨v1, i, v2, v3, v4⟩ | ⟨v1, v2, v3, v4⟩
  · subst v3
    have hj := (zfn_lt v2).1
    refine ⟨b1, b2, hb3, hb4, fun _ => ?_, hb6, hb7 _ sc sa nv (Nat.le_refl _) (fun _ _ => rfl) (fun _ => Nat.le_refl _) ⟨fun q => (by rw [v1] at q; cases q), fun _ => ⟨by omega, by rw [hvc.2]; omega⟩⟩, fun r v hv => hb8 _ r v hv, hb9 _ (fun q1 q2 => ?_)⟩
    · rw [Nat.add_sub_cancel]; exact ⟨by omega, hvc.2⟩
    · rw [if_pos ⟨q1, q2⟩] at hj; omega
  · subst v5
    have h0 : ¬ (cnt (so k) = 0 ∧ so k % 2 = 0) := fun q => v4 q.1
    rw [if_neg h0] at hvc v2
    have hso : 2 * (so k / 2) = so k := by omega
    rw [hso] at hvc
    have hnv : ∀ r, nv r ≤ va_up nv (so k / 2) (vc + 1) r := fun r => by
      by_cases hr : r = so k / 2
      · subst hr; simp only [va_up, if_true]; omega
      · simp [va_up, hr]
    refine ⟨b1, b2, fun v hv' => ?_, hb4, fun _ => ?_, fun r => ?_, hb7 _ sc sa _ (Nat.le_refl _) (fun _ _ => rfl) hnv ⟨fun q => (by rw [v1] at q; cases q), fun _ => ⟨by omega, by simp only [va_up, if_true]; omega⟩⟩, fun r v hv' => ?_, hb9 _ (fun q1 _ => absurd q1 v4)⟩
    · by_cases hvv : v = vc
      · subst hvv; simp only [va_up, if_true]; exact hv
      · simp only [va_up, hvv, if_false]; exact b3 v (by omega)
    · rw [Nat.add_sub_cancel, hso]
      simp only [va_up, if_true]
      exact ⟨by omega, trivial⟩
    · by_cases hr : r = so k / 2
      · subst hr; rw [hso]; simp only [va_up, if_true]; omega
      · simp only [va_up, hr, if_false]; exact hb6 r
    · by_cases hr : r = so k / 2
      · subst hr
        rw [hso]
        by_cases hvv : v = vc
        · subst hvv
          simp only [va_up, if_true]
          refine ⟨by omega, by omega, trivial, fun p hp => ?_⟩
          rw [if_neg (by omega)]
          -- each code there is of a node before
          have hi : p + znb so (so k) k < k := by omega
          have hsi : so (p + znb so (so k) k) = so k := by
            have q1 := hle _ hi
            have q2 : ¬ so (p + znb so (so k) k) < so k := fun q => Nat.not_lt.mpr (Nat.le_add_left (znb so (so k) k) p) ((hT _ hi (so k)).mp q)
            omega
          obtain ⟨c1, c2⟩ := b7 _ hi
          rw [hsi, Nat.add_sub_cancel] at c1 c2
          cases hiv : iv (p + znb so (so k) k) with
          | false => have := (c1 hiv).1; omega
          | true => have := (c2 hiv).2; omega
        · have hv2 : v < nv (so k / 2) := by simp only [va_up, if_true] at hv'; omega
          have := hb8 (100 + vc) (so k / 2) v hv2
          rw [hso] at this
          have hfa : va_up fa (so k / 2) (va_up (fa (so k / 2)) vc (cnt (so k))) (so k / 2) v = fa (so k / 2) v := by simp [va_up, hvv]
          rw [hfa]
          exact this
      · have hfa : va_up fa (so k / 2) (va_up (fa (so k / 2)) vc (cnt (so k))) r v = fa r v := by simp [va_up, hr]
        rw [hfa]
        exact hb8 _ r v (by simp only [va_up, hr, if_false] at hv'; exact hv')
  · subst v4
    have hi := (zfn_lt v2).1
    refine ⟨b1, b2, hb3, hb4, fun _ => ?_, hb6, hb7 _ sc sa nv (Nat.le_refl _) (fun _ _ => rfl) (fun _ => Nat.le_refl _) ⟨fun _ => ⟨hi, v3⟩, fun q => (by rw [v1] at q; cases q)⟩, fun r v hv => hb8 _ r v hv, hb9 _ (fun q1 q2 => by omega)⟩
    rw [Nat.add_sub_cancel]; exact ⟨by omega, hvc.2⟩
  · subst v4
    have hsa : ∀ i, i < sc → va_up sa sc (pa k) i = sa i := fun i hi => by simp [va_up, show ¬ i = sc by omega]
    refine ⟨by omega, fun i hi => ?_, hb3, hb4, fun _ => ?_, hb6, hb7 _ (sc + 1) _ nv (Nat.le_succ _) hsa (fun _ => Nat.le_refl _) ⟨fun _ => ⟨by omega, by simp [va_up]⟩, fun q => (by rw [v1] at q; cases q)⟩, fun r v hv => hb8 _ r v hv, hb9 _ (fun q1 q2 => by omega)⟩
    · by_cases his : i = sc
      · subst his; simp only [va_up, if_true]; exact ⟨hv, hp⟩
      · simp only [va_up, his, if_false]; exact b2 i (by omega)
    · rw [Nat.add_sub_cancel]; exact ⟨by omega, hvc.2⟩
theorem zBI_all {nm : Nat → List Nat} {iv : Nat → Bool} {pa so : Nat → Nat} {c : Nat} (hs : zch so c) (hv : ∀ k, k < c → zvn (nm k) ∧ pa k ≤ 4000) : ∀ k B, k ≤ c → zbd nm iv pa so k = some B → zBI iv pa so k B := by
  intro k
  induction k with
  | zero => intro B _ h; cases h; exact zBI_0
  | succ k ih =>
    intro B hk h
    simp only [zbd] at h
    split at h
    · cases h
    · rename_i B0 h0
      exact zBI_step hs (by omega) (hv k (by omega)).1 (hv k (by omega)).2 (ih B0 (by omega) h0) h
