/-! a term is drawn in two bytes for each node, or more -/
section LO
variable {nf : Nat → List Nat} {ar : Nat → Nat}
theorem zdw_f : ∀ (f : xF), xw ar f → (∀ c, c ∈ xp f → 1 ≤ (nf c).length) → ∀ m stk out, xl f ≤ m → 1 ≤ xl f → ∃ o, (xl f < m → zdw nf ar (xp f) (m :: stk, out) = ((m - xl f) :: stk, o)) ∧ (¬ xl f < m → zdw nf ar (xp f) (m :: stk, out) = zcw stk o) ∧ out.length + 2 * xz f ≤ o.length
  | (.leaf ()), _, _, m, stk, out, _, h => by simp only [xl] at h; omega
  | .branch c k r, ⟨w1, w2, w3⟩, hn, m, stk, out, hm, _ => by
    have hc := hn c (by simp [xp])
    have hk : ∀ d, d ∈ xp k → 1 ≤ (nf d).length := fun d hd => hn d (by simp only [xp, List.mem_cons, List.mem_append]; exact Or.inr (Or.inl hd))
    have hr : ∀ d, d ∈ xp r → 1 ≤ (nf d).length := fun d hd => hn d (by simp only [xp, List.mem_cons, List.mem_append]; exact Or.inr (Or.inr hd))
    -- behind the first node and its parts
    have tree : ∃ o1, zdw nf ar (c :: xp k) (m :: stk, out) = zcw (m :: stk) o1 ∧ out.length + 1 + 2 * xz k ≤ o1.length := by
      simp only [zdw]
      by_cases ha : 0 < ar c
      · have es : zsg (ar c) (m :: stk) (out ++ nf c) = (ar c :: m :: stk, (out ++ nf c) ++ [40]) := if_pos ha
        rw [es]
        obtain ⟨o, _, o1, o2⟩ := zdw_f k w2 hk (ar c) (m :: stk) ((out ++ nf c) ++ [40]) (by omega) (by omega)
        refine ⟨o, o1 (by omega), ?_⟩
        simp only [List.length_append, List.length_cons, List.length_nil] at o2
        omega
      · have es : zsg (ar c) (m :: stk) (out ++ nf c) = zcw (m :: stk) (out ++ nf c) := if_neg ha
        rw [es]
        have : k = (.leaf ()) := xl_0 (by omega)
        subst this
        exact ⟨out ++ nf c, rfl, by rw [List.length_append]; simp only [xz]; omega⟩
    obtain ⟨o1, t1, t2⟩ := tree
    have ex : xp (.branch c k r) = (c :: xp k) ++ xp r := rfl
    rw [ex, zdw_ap, t1]
    simp only [xl, xz] at hm ⊢
    by_cases h1 : 1 < m
    · have ez : zcw (m :: stk) o1 = ((m - 1) :: stk, o1 ++ [44]) := if_pos h1
      rw [ez]
      by_cases hr0 : xl r = 0
      · have : r = (.leaf ()) := xl_0 hr0
        subst this
        refine ⟨o1 ++ [44], fun _ => rfl, fun h => absurd (by simp only [xl]; omega) h, ?_⟩
        · rw [List.length_append]; simp only [List.length_cons, List.length_nil, xz]; omega
      · obtain ⟨o, p1, p3, p2⟩ := zdw_f r w3 hr (m - 1) stk (o1 ++ [44]) (by omega) (by omega)
        refine ⟨o, fun h => ?_, fun h => p3 (by omega), ?_⟩
        · rw [p1 (by omega), show m - 1 - xl r = m - (xl r + 1) by omega]
        · rw [List.length_append] at p2
          simp only [List.length_cons, List.length_nil] at p2
          omega
    · have ez : zcw (m :: stk) o1 = zcw stk (o1 ++ [41]) := if_neg h1
      have hr0 : xl r = 0 := by omega
      have : r = (.leaf ()) := xl_0 hr0
      subst this
      rw [ez]
      refine ⟨o1 ++ [41], fun h => absurd h (by simp only [xl]; omega), fun _ => rfl, ?_⟩
      · rw [List.length_append]; simp only [List.length_cons, List.length_nil, xz]; omega
theorem zdw_t {T : xF} (hw : xw ar T) (hl : xl T = 1) (hn : ∀ c, c ∈ xp T → 1 ≤ (nf c).length) : 2 * xz T ≤ (zdw nf ar (xp T) ([], [])).2.length + 1 := by
  obtain ⟨c, k, rfl⟩ := xl_1 hl
  obtain ⟨w1, w2, _⟩ := hw
  have hc := hn c (by simp [xp])
  have hk : ∀ d, d ∈ xp k → 1 ≤ (nf d).length := fun d hd => hn d (by simp only [xp, List.mem_cons, List.mem_append]; exact Or.inr (Or.inl hd))
  simp only [xp, List.append_nil, zdw, List.nil_append]
  by_cases ha : 0 < ar c
  · have es : zsg (ar c) [] (nf c) = ([ar c], nf c ++ [40]) := if_pos ha
    rw [es]
    obtain ⟨o, _, o1, o2⟩ := zdw_f k w2 hk (ar c) [] (nf c ++ [40]) (by omega) (by omega)
    rw [o1 (by omega)]
    simp only [zcw, xz]
    rw [List.length_append] at o2
    simp only [List.length_cons, List.length_nil] at o2
    omega
  · have es : zsg (ar c) [] (nf c) = ([], nf c) := if_neg ha
    rw [es]
    have : k = (.leaf ()) := xl_0 (by omega)
    subst this
    simp only [xp, zdw, xz]
    omega
end LO
