/-! forests: a node's code, its parts, what stands beside it -/
abbrev xF : Type := Lean.RArray Unit
def xp : xF → List Nat
  | (.leaf ()) => []
  | .branch c k r => c :: (xp k ++ xp r)
def xl : xF → Nat
  | (.leaf ()) => 0
  | .branch _ _ r => xl r + 1
def xz : xF → Nat
  | (.leaf ()) => 0
  | .branch _ k r => 1 + xz k + xz r
def xw (ar : Nat → Nat) : xF → Prop
  | (.leaf ()) => True
  | .branch c k r => xl k = ar c ∧ xw ar k ∧ xw ar r
def xap : xF → xF → xF
  | (.leaf ()), g => g
  | .branch c k r, g => .branch c k (xap r g)
theorem xap_nil : ∀ f, xap f (.leaf ()) = f
  | (.leaf ()) => rfl
  | .branch c k r => by simp only [xap, xap_nil r]
theorem xap_as : ∀ f g h, xap (xap f g) h = xap f (xap g h)
  | (.leaf ()), _, _ => rfl
  | .branch c k r, g, h => by simp only [xap, xap_as r g h]
theorem xp_ap : ∀ f g, xp (xap f g) = xp f ++ xp g
  | (.leaf ()), _ => rfl
  | .branch c k r, g => by simp only [xap, xp, xp_ap r g, List.cons_append, List.append_assoc]
theorem xl_ap : ∀ f g, xl (xap f g) = xl f + xl g
  | (.leaf ()), g => by simp [xap, xl]
  | .branch c k r, g => by simp only [xap, xl, xl_ap r g]; omega
theorem xz_ap : ∀ f g, xz (xap f g) = xz f + xz g
  | (.leaf ()), g => by simp [xap, xz]
  | .branch c k r, g => by simp only [xap, xz, xz_ap r g]; omega
theorem xw_ap {ar : Nat → Nat} : ∀ f g, xw ar (xap f g) ↔ xw ar f ∧ xw ar g
  | (.leaf ()), g => by simp [xap, xw]
  | .branch c k r, g => by simp only [xap, xw, xw_ap r g, and_assoc]
theorem xp_len : ∀ f, (xp f).length = xz f
  | (.leaf ()) => rfl
  | .branch c k r => by simp only [xp, xz, List.length_cons, List.length_append, xp_len k, xp_len r]; omega
theorem xl_le : ∀ f, xl f ≤ xz f
  | (.leaf ()) => Nat.le_refl _
  | .branch c k r => by have := xl_le r; simp only [xl, xz]; omega
theorem xl_0 {f : xF} (h : xl f = 0) : f = (.leaf ()) := by
  cases f with
  | leaf _ => rfl
  | branch c k r => simp only [xl] at h; omega
theorem xl_1 {f : xF} (h : xl f = 1) : ∃ c k, f = .branch c k (.leaf ()) := by
  cases f with
  | leaf _ => simp only [xl] at h; omega
  | branch c k r => exact ⟨c, k, by rw [xl_0 (f := r) (by simp only [xl] at h; omega)]⟩
/-- a row of codes is read in one way -/
theorem xp_inj {ar : Nat → Nat} : ∀ n f g x y, xz f ≤ n → xw ar f → xw ar g → xl f = xl g → xp f ++ x = xp g ++ y → f = g ∧ x = y := by
  intro n
  induction n with
  | zero =>
    intro f g x y h1 h2 h3 h4 h5
    cases f with
    | leaf _ => have : g = (.leaf ()) := xl_0 (h4.symm); subst this; exact ⟨rfl, h5⟩
    | branch c k r => simp only [xz] at h1; omega
  | succ n ih =>
    intro f g x y h1 h2 h3 h4 h5
    cases f with
    | leaf _ => have : g = (.leaf ()) := xl_0 (h4.symm); subst this; exact ⟨rfl, h5⟩
    | branch c k r =>
      cases g with
      | leaf _ => simp only [xl] at h4; omega
      | branch c' k' r' =>
        simp only [xp, List.cons_append, List.append_assoc] at h5
        injection h5 with h6 h7
        subst h6
        simp only [xz] at h1
        obtain ⟨e1, e2⟩ := ih k k' _ _ (by omega) h2.2.1 h3.2.1 (by rw [h2.1, h3.1]) h7
        obtain ⟨e3, e4⟩ := ih r r' _ _ (by omega) h2.2.2 h3.2.2 (by simp only [xl] at h4; omega) e2
        subst e1; subst e3
        exact ⟨rfl, e4⟩
theorem xp_in {ar : Nat → Nat} {f g : xF} (h2 : xw ar f) (h3 : xw ar g) (h4 : xl f = xl g) (h5 : xp f = xp g) : f = g := (xp_inj (ar := ar) (xz f) f g [] [] (Nat.le_refl _) h2 h3 h4 (by rw [h5])).1
/-- a forest is cut behind its first n roots -/
theorem xcut : ∀ f n, n ≤ xl f → ∃ x k, f = xap x k ∧ xl x = n
  | f, 0, _ => ⟨(.leaf ()), f, rfl, rfl⟩
  | (.leaf ()), n + 1, h => by simp only [xl] at h; omega
  | .branch c k r, n + 1, h => by
    obtain ⟨x, y, e1, e2⟩ := xcut r n (by simp only [xl] at h; omega)
    exact ⟨.branch c k x, y, by rw [e1]; rfl, by simp only [xl, e2]⟩
theorem xap_inj : ∀ {f g x y}, xap f x = xap g y → xl f = xl g → f = g ∧ x = y
  | (.leaf ()), g, x, y, h, h' => by have : g = (.leaf ()) := xl_0 h'.symm; subst this; exact ⟨rfl, h⟩
  | .branch c k r, (.leaf ()), x, y, h, h' => by simp only [xl] at h'; omega
  | .branch c k r, .branch c' k' r', x, y, h, h' => by
    simp only [xap] at h
    injection h with h1 h2 h3
    obtain ⟨e1, e2⟩ := xap_inj h3 (by simp only [xl] at h'; omega)
    subst h1; subst h2; subst e1
    exact ⟨rfl, e2⟩
/-! a step: the first node in the order of ends; X c k is what comes of the node c over k, if a rule fits it -/
def xst (X : Nat → xF → Option xF) : xF → Option xF
  | (.leaf ()) => none
  | .branch c k r => match xst X k with
    | some k' => some (.branch c k' r)
    | none => match X c k with
      | some t => some (xap t r)
      | none => match xst X r with
        | some r' => some (.branch c k r')
        | none => none
theorem xst_ap {X : Nat → xF → Option xF} : ∀ f g, xst X (xap f g) = match xst X f with
    | some f' => some (xap f' g)
    | none => match xst X g with
      | some g' => some (xap f g')
      | none => none
  | (.leaf ()), g => by
    simp only [xap, xst]
    cases xst X g <;> rfl
  | .branch c k r, g => by
    simp only [xap, xst, xst_ap r g]
    cases xst X k with
    | some k' => rfl
    | none =>
      cases X c k with
      | some t => simp only [xap_as]
      | none =>
        cases xst X r with
        | some r' => rfl
        | none => cases xst X g <;> rfl
theorem xst_n {X : Nat → xF → Option xF} {c : Nat} {k r : xF} : xst X (.branch c k r) = none ↔ xst X k = none ∧ X c k = none ∧ xst X r = none := by
  simp only [xst]
  cases xst X k <;> cases X c k <;> cases xst X r <;> simp
theorem xst_apn {X : Nat → xF → Option xF} {f g : xF} : xst X (xap f g) = none ↔ xst X f = none ∧ xst X g = none := by
  rw [xst_ap]
  cases xst X f <;> cases xst X g <;> simp
theorem xst_l {X : Nat → xF → Option xF} (hX : ∀ c k t, X c k = some t → xl t = 1) : ∀ f f', xst X f = some f' → xl f' = xl f
  | (.leaf ()), f', h => by cases h
  | .branch c k r, f', h => by
    simp only [xst] at h
    split at h
    · cases h; rfl
    · split at h
      · rename_i t ht; cases h; rw [xl_ap, hX c k t ht]; simp only [xl]; omega
      · split at h
        · rename_i r' hr; cases h; simp only [xl]; rw [xst_l hX r r' hr]
        · cases h
theorem xst_w {X : Nat → xF → Option xF} {ar : Nat → Nat} (hX : ∀ c k t, X c k = some t → xl t = 1) (hW : ∀ c k t, xl k = ar c → xw ar k → X c k = some t → xw ar t) : ∀ f f', xw ar f → xst X f = some f' → xw ar f'
  | (.leaf ()), f', _, h => by cases h
  | .branch c k r, f', hw, h => by
    simp only [xst] at h
    split at h
    · rename_i k' hk; cases h; exact ⟨by rw [xst_l hX k k' hk]; exact hw.1, xst_w hX hW k k' hw.2.1 hk, hw.2.2⟩
    · split at h
      · rename_i t ht; cases h; exact (xw_ap _ _).mpr ⟨hW c k t hw.1 hw.2.1 ht, hw.2.2⟩
      · split at h
        · rename_i r' hr; cases h; exact ⟨hw.1, hw.2.1, xst_w hX hW r r' hw.2.2 hr⟩
        · cases h
/-- where the step is: the node's place o, what stands before and behind it -/
def xbp (X : Nat → xF → Option xF) : xF → Nat → Option Nat
  | (.leaf ()), _ => none
  | .branch c k r, o => match xbp X k (o + 1) with
    | some p => some p
    | none => match X c k with
      | some _ => some o
      | none => xbp X r (o + 1 + xz k)
theorem xbp_n {X : Nat → xF → Option xF} : ∀ f o, xbp X f o = none ↔ xst X f = none
  | (.leaf ()), o => by simp [xbp, xst]
  | .branch c k r, o => by
    have h1 := xbp_n (X := X) k (o + 1)
    have h2 := xbp_n (X := X) r (o + 1 + xz k)
    rw [xst_n]
    simp only [xbp]
    cases hk : xbp X k (o + 1) with
    | some p =>
      rw [hk] at h1
      constructor
      · intro h; cases h
      · intro h; exact absurd (h1.mpr h.1) (by simp)
    | none =>
      cases hx : X c k with
      | some t => simp
      | none => simp [h2, h1.mp hk]
theorem xbp_s {X : Nat → xF → Option xF} : ∀ f o p, xbp X f o = some p → ∃ A c k t f' B, xp f = A ++ c :: (xp k ++ B) ∧ p = o + A.length ∧ X c k = some t ∧ xst X f = some f' ∧ xp f' = A ++ (xp t ++ B)
  | (.leaf ()), o, p, h => by cases h
  | .branch c k r, o, p, h => by
    simp only [xbp] at h
    cases hk : xbp X k (o + 1) with
    | some p' =>
      rw [hk] at h
      cases h
      obtain ⟨A, c1, k1, t, f', B, e1, e2, e3, e4, e5⟩ := xbp_s k (o + 1) p hk
      refine ⟨c :: A, c1, k1, t, .branch c f' r, B ++ xp r, ?_, ?_, e3, ?_, ?_⟩
      · simp only [xp, e1, List.cons_append, List.append_assoc]
      · simp only [List.length_cons]; omega
      · simp only [xst, e4]
      · simp only [xp, e5, List.cons_append, List.append_assoc]
    | none =>
      have hn := (xbp_n k (o + 1)).mp hk
      rw [hk] at h
      cases hx : X c k with
      | some t =>
        rw [hx] at h
        cases h
        exact ⟨[], c, k, t, xap t r, xp r, by simp only [xp, List.nil_append], by simp, hx, by simp only [xst, hn, hx], by simp only [xp_ap, List.nil_append]⟩
      | none =>
        rw [hx] at h
        obtain ⟨A, c1, k1, t, f', B, e1, e2, e3, e4, e5⟩ := xbp_s r (o + 1 + xz k) p h
        refine ⟨c :: (xp k ++ A), c1, k1, t, .branch c k f', B, ?_, ?_, e3, ?_, ?_⟩
        · simp only [xp, e1, List.cons_append, List.append_assoc]
        · simp only [List.length_cons, List.length_append, xp_len]; omega
        · simp only [xst, hn, hx, e4]
        · simp only [xp, e5, List.cons_append, List.append_assoc]
/-! the model's search: from the first place on, the least end, the last of those -/
def xsl (red : Nat → Bool) (en : Nat → Nat) : Nat → Nat → Option Nat → Option Nat
  | 0, _, b => b
  | n + 1, p, b => xsl red en n (p + 1) (if red p = true ∧ (∀ q, b = some q → en p ≤ en q) then some p else b)
def xat (X : Nat → xF → Option xF) (red : Nat → Bool) (en : Nat → Nat) : xF → Nat → Prop
  | (.leaf ()), _ => True
  | .branch c k r, o => red o = (X c k).isSome ∧ en o = o + 1 + xz k ∧ xat X red en k (o + 1) ∧ xat X red en r (o + 1 + xz k)
theorem xsl_add {red : Nat → Bool} {en : Nat → Nat} : ∀ n m p b, xsl red en (n + m) p b = xsl red en m (p + n) (xsl red en n p b)
  | 0, m, p, b => by simp [xsl]
  | n + 1, m, p, b => by
    rw [show n + 1 + m = (n + m) + 1 by omega]
    simp only [xsl]
    rw [xsl_add n m (p + 1), show p + 1 + n = p + (n + 1) by omega]
theorem xbp_e {X : Nat → xF → Option xF} {red : Nat → Bool} {en : Nat → Nat} : ∀ f o p, xat X red en f o → xbp X f o = some p → o ≤ p ∧ en p ≤ o + xz f
  | (.leaf ()), o, p, _, h => by cases h
  | .branch c k r, o, p, ⟨h1, h2, h3, h4⟩, h => by
    simp only [xbp] at h
    simp only [xz]
    cases hk : xbp X k (o + 1) with
    | some p' =>
      rw [hk] at h; cases h
      have := xbp_e k (o + 1) p h3 hk
      omega
    | none =>
      rw [hk] at h
      cases hx : X c k with
      | some t => rw [hx] at h; cases h; omega
      | none =>
        rw [hx] at h
        have := xbp_e r (o + 1 + xz k) p h4 h
        omega
theorem xsl_f {X : Nat → xF → Option xF} {red : Nat → Bool} {en : Nat → Nat} : ∀ f o, xat X red en f o →
    (∀ q, en q ≤ o → xsl red en (xz f) o (some q) = some q) ∧
    (∀ b : Option Nat, (∀ q, b = some q → o + xz f ≤ en q) → xsl red en (xz f) o b = match xbp X f o with
      | some p => some p
      | none => b)
  | (.leaf ()), o, _ => ⟨fun q _ => rfl, fun b _ => rfl⟩
  | .branch c k r, o, ⟨h1, h2, h3, h4⟩ => by
    obtain ⟨k1, k2⟩ := xsl_f k (o + 1) h3
    obtain ⟨r1, r2⟩ := xsl_f r (o + 1 + xz k) h4
    constructor
    · intro q hq
      simp only [xz]
      rw [show 1 + xz k + xz r = (xz k + xz r) + 1 by omega]
      simp only [xsl]
      rw [if_neg (fun h => by have := h.2 q rfl; omega), xsl_add, k1 q (by omega), r1 q (by omega)]
    · intro b hb
      simp only [xz] at hb ⊢
      rw [show 1 + xz k + xz r = (xz k + xz r) + 1 by omega]
      simp only [xsl, xbp]
      cases hx : X c k with
      | some t =>
        rw [hx] at h1
        rw [if_pos ⟨h1, fun q hq => by have := hb q hq; omega⟩, xsl_add, k2 (some o) (fun q hq => by cases hq; omega)]
        cases hk : xbp X k (o + 1) with
        | some p =>
          dsimp only
          exact r1 p (by have := (xbp_e k (o + 1) p h3 hk).2; omega)
        | none =>
          dsimp only
          exact r1 o (by omega)
      | none =>
        rw [hx] at h1
        rw [if_neg (fun h => by rw [h1] at h; exact absurd h.1 (by simp)), xsl_add, k2 b (fun q hq => by have := hb q hq; omega)]
        cases hk : xbp X k (o + 1) with
        | some p =>
          dsimp only
          exact r1 p (by have := (xbp_e k (o + 1) p h3 hk).2; omega)
        | none =>
          dsimp only
          exact r2 b (fun q hq => by have := hb q hq; omega)
/-! the class's search: what is done, and what is to be built on it -/
abbrev xI : Type := Sum Nat xF
def xev (ar : Nat → Nat) : List xI → xF → xF → Prop
  | [], S, T => S = T
  | .inr u :: its, S, T => xev ar its (xap S u) T
  | .inl c :: its, S, T => ∃ x k, S = xap x k ∧ xl k = ar c ∧ xev ar its (xap x (.branch c k (.leaf ()))) T
theorem xev_ap {ar : Nat → Nat} : ∀ {a b : List xI} {S U T : xF}, xev ar a S U → xev ar b U T → xev ar (a ++ b) S T
  | [], b, S, U, T, h, h' => by cases h; exact h'
  | .inr u :: its, b, S, U, T, h, h' => xev_ap (a := its) h h'
  | .inl c :: its, b, S, U, T, ⟨x, k, e1, e2, h⟩, h' => ⟨x, k, e1, e2, xev_ap (a := its) h h'⟩
theorem xev_st {X : Nat → xF → Option xF} {ar : Nat → Nat} (hX : ∀ c k t, X c k = some t → xl t = 1) : ∀ {its : List xI} {S S' T : xF}, xst X S = some S' → xev ar its S T → ∃ T', xst X T = some T' ∧ xev ar its S' T'
  | [], S, S', T, h, h' => by cases h'; exact ⟨S', h, rfl⟩
  | .inr u :: its, S, S', T, h, h' => xev_st hX (its := its) (S' := xap S' u) (by rw [xst_ap, h]) h'
  | .inl c :: its, S, S', T, h, ⟨x, k, e1, e2, h'⟩ => by
    subst e1
    rw [xst_ap] at h
    cases hx : xst X x with
    | some x' =>
      rw [hx] at h
      cases h
      obtain ⟨T', t1, t2⟩ := xev_st hX (its := its) (S' := xap x' (.branch c k (.leaf ()))) (by rw [xst_ap, hx]) h'
      exact ⟨T', t1, x', k, rfl, e2, t2⟩
    | none =>
      rw [hx] at h
      cases hk : xst X k with
      | none => rw [hk] at h; cases h
      | some k' =>
        rw [hk] at h
        cases h
        obtain ⟨T', t1, t2⟩ := xev_st hX (its := its) (S' := xap x (.branch c k' (.leaf ()))) (by rw [xst_ap, hx]; simp only [xst, hk]) h'
        exact ⟨T', t1, x, k', rfl, by rw [xst_l hX k k' hk]; exact e2, t2⟩
def xis : List xI → Nat
  | [] => 0
  | .inl _ :: its => 1 + xis its
  | .inr u :: its => xz u + xis its
theorem xev_z {ar : Nat → Nat} : ∀ {its : List xI} {S T : xF}, xev ar its S T → xz T = xz S + xis its
  | [], S, T, h => by cases h; simp [xis]
  | .inr u :: its, S, T, h => by have := xev_z (its := its) h; rw [xz_ap] at this; simp only [xis]; omega
  | .inl c :: its, S, T, ⟨x, k, e1, e2, h⟩ => by
    have := xev_z (its := its) h
    subst e1
    rw [xz_ap] at this ⊢
    simp only [xz] at this
    simp only [xis]; omega
theorem xis_ap : ∀ (a b : List xI), xis (a ++ b) = xis a + xis b
  | [], b => by simp [xis]
  | .inl _ :: its, b => by simp only [List.cons_append, xis, xis_ap its b]; omega
  | .inr u :: its, b => by simp only [List.cons_append, xis, xis_ap its b]; omega
/-- what is to be built for a forest whose codes from 100 on stand for e -/
def xit (e : Nat → xF) : xF → List xI
  | (.leaf ()) => []
  | .branch c k r => if c < 100 then xit e k ++ .inl c :: xit e r else .inr (e c) :: xit e r
def xsb (e : Nat → xF) : xF → xF
  | (.leaf ()) => (.leaf ())
  | .branch c k r => if c < 100 then .branch c (xsb e k) (xsb e r) else xap (e c) (xsb e r)
theorem xsb_l {e : Nat → xF} : ∀ g : xF, (∀ c, c ∈ xp g → 100 ≤ c → xl (e c) = 1) → xl (xsb e g) = xl g
  | (.leaf ()), _ => rfl
  | .branch c k r, h => by
    have hr := xsb_l (e := e) r (fun c hc => h c (by simp only [xp, List.mem_cons, List.mem_append]; exact Or.inr (Or.inr hc)))
    simp only [xsb]
    split
    · simp only [xl, hr]
    · rw [xl_ap, hr, h c (by simp [xp]) (by omega)]; simp only [xl]; omega
theorem xsb_w {ar : Nat → Nat} {e : Nat → xF} : ∀ g : xF, xw ar g → (∀ c, c ∈ xp g → 100 ≤ c → xl (e c) = 1 ∧ xw ar (e c)) → xw ar (xsb e g)
  | (.leaf ()), _, _ => trivial
  | .branch c k r, w, h => by
    have hk' : ∀ c, c ∈ xp k → 100 ≤ c → xl (e c) = 1 ∧ xw ar (e c) := fun c hc => h c (by simp only [xp, List.mem_cons, List.mem_append]; exact Or.inr (Or.inl hc))
    have hr := xsb_w (e := e) r w.2.2 (fun c hc => h c (by simp only [xp, List.mem_cons, List.mem_append]; exact Or.inr (Or.inr hc)))
    simp only [xsb]
    split
    · exact ⟨by rw [xsb_l k (fun c hc q => (hk' c hc q).1)]; exact w.1, xsb_w k w.2.1 hk', hr⟩
    · exact (xw_ap _ _).mpr ⟨(h c (by simp [xp]) (by omega)).2, hr⟩
theorem xit_ev {ar : Nat → Nat} {e : Nat → xF} : ∀ (g S : xF), xw ar g → (∀ c, c ∈ xp g → 100 ≤ c → xl (e c) = 1) → xev ar (xit e g) S (xap S (xsb e g))
  | (.leaf ()), S, _, _ => (xap_nil S).symm
  | .branch c k r, S, w, h => by
    have hk' : ∀ c, c ∈ xp k → 100 ≤ c → xl (e c) = 1 := fun c hc => h c (by simp only [xp, List.mem_cons, List.mem_append]; exact Or.inr (Or.inl hc))
    have hr' : ∀ c, c ∈ xp r → 100 ≤ c → xl (e c) = 1 := fun c hc => h c (by simp only [xp, List.mem_cons, List.mem_append]; exact Or.inr (Or.inr hc))
    simp only [xit, xsb]
    split
    · refine xev_ap (xit_ev k S w.2.1 hk') ⟨S, xsb e k, rfl, by rw [xsb_l k hk']; exact w.1, ?_⟩
      have := xit_ev (e := e) r (xap S (.branch c (xsb e k) (.leaf ()))) w.2.2 hr'
      rw [xap_as] at this
      exact this
    · have := xit_ev (e := e) r (xap S (e c)) w.2.2 hr'
      rw [xap_as] at this
      exact this
theorem xit_z {e : Nat → xF} : ∀ g : xF, xis (xit e g) = xz (xsb e g) ∨ True := fun _ => Or.inr trivial
theorem xit_len {e : Nat → xF} : ∀ g : xF, (xit e g).length ≤ xz g
  | (.leaf ()) => Nat.le_refl _
  | .branch c k r => by
    have h1 := xit_len (e := e) k
    have h2 := xit_len (e := e) r
    simp only [xit, xz]
    split
    · simp only [List.length_append, List.length_cons]; omega
    · simp only [List.length_cons]; omega
/-! a rule's front is held against a term -/
noncomputable def xmt : List Nat → xF → (Nat → Option xF) → Option (Nat → Option xF)
  | [], _, e => some e
  | _ :: _, (.leaf ()), _ => none
  | x :: w, .branch c k r, e => if x < 100 then (if c = x then xmt w (xap k r) e else none)
    else match e x with
      | none => xmt w r (va_up e x (some (.branch c k (.leaf ()))))
      | some u => @ite (Option (Nat → Option xF)) (u = .branch c k (.leaf ())) (Classical.propDecidable _) (xmt w r e) none
theorem xmt_dom : ∀ (w : List Nat) (S : xF) (e e' : Nat → Option xF), xmt w S e = some e' → (∀ x, e x ≠ none → e' x = e x) ∧ (∀ x, x ∈ w → 100 ≤ x → e' x ≠ none)
  | [], S, e, e', h => by cases h; exact ⟨fun _ _ => rfl, fun x hx => by cases hx⟩
  | x :: w, (.leaf ()), e, e', h => by cases h
  | x :: w, .branch c k r, e, e', h => by
    simp only [xmt] at h
    by_cases hx : x < 100
    · rw [if_pos hx] at h
      by_cases hc : c = x
      · rw [if_pos hc] at h
        obtain ⟨h1, h2⟩ := xmt_dom w _ e e' h
        refine ⟨h1, fun y hy hy' => ?_⟩
        rcases List.mem_cons.mp hy with q | q
        · omega
        · exact h2 y q hy'
      · rw [if_neg hc] at h; cases h
    · rw [if_neg hx] at h
      cases he : e x with
      | none =>
        rw [he] at h
        obtain ⟨h1, h2⟩ := xmt_dom w _ _ e' h
        have hxx : va_up e x (some (.branch c k (.leaf ()))) x = some (.branch c k (.leaf ())) := by simp [va_up]
        refine ⟨fun y hy => ?_, fun y hy hy' => ?_⟩
        · have hyx : y ≠ x := fun q => hy (by rw [q, he])
          have hyy : va_up e x (some (.branch c k (.leaf ()))) y = e y := by simp [va_up, hyx]
          rw [h1 y (by rw [hyy]; exact hy), hyy]
        · rcases List.mem_cons.mp hy with q | q
          · subst q
            rw [h1 y (by rw [hxx]; simp), hxx]
            simp
          · exact h2 y q hy'
      | some u =>
        rw [he] at h
        dsimp only at h
        split at h
        · obtain ⟨h1, h2⟩ := xmt_dom w _ e e' h
          refine ⟨h1, fun y hy hy' => ?_⟩
          rcases List.mem_cons.mp hy with q | q
          · subst q; rw [h1 y (by rw [he]; simp), he]; simp
          · exact h2 y q hy'
        · cases h
def xgood (ar : Nat → Nat) (X : Nat → xF → Option xF) (e : Nat → Option xF) : Prop := ∀ x u, e x = some u → xl u = 1 ∧ xw ar u ∧ xst X u = none
theorem xmt_good {ar : Nat → Nat} {X : Nat → xF → Option xF} : ∀ (w : List Nat) (S : xF) (e e' : Nat → Option xF), xgood ar X e → xw ar S → xst X S = none → xmt w S e = some e' → xgood ar X e'
  | [], S, e, e', hg, _, _, h => by cases h; exact hg
  | x :: w, (.leaf ()), e, e', _, _, _, h => by cases h
  | x :: w, .branch c k r, e, e', hg, hw, hn, h => by
    obtain ⟨n1, n2, n3⟩ := xst_n.mp hn
    obtain ⟨w1, w2, w3⟩ := hw
    simp only [xmt] at h
    by_cases hx : x < 100
    · rw [if_pos hx] at h
      by_cases hc : c = x
      · rw [if_pos hc] at h
        exact xmt_good w _ e e' hg ((xw_ap _ _).mpr ⟨w2, w3⟩) (xst_apn.mpr ⟨n1, n3⟩) h
      · rw [if_neg hc] at h; cases h
    · rw [if_neg hx] at h
      cases he : e x with
      | none =>
        rw [he] at h
        refine xmt_good w r _ e' (fun y u hu => ?_) w3 n3 h
        by_cases hyx : y = x
        · subst hyx
          simp only [va_up, if_true] at hu
          cases hu
          exact ⟨rfl, ⟨w1, w2, trivial⟩, xst_n.mpr ⟨n1, n2, rfl⟩⟩
        · simp only [va_up, hyx, if_false] at hu
          exact hg y u hu
      | some u =>
        rw [he] at h
        dsimp only at h
        split at h
        · exact xmt_good w r e e' hg w3 n3 h
        · cases h
/-- the first rule that fits -/
noncomputable def xru (W : Nat → List Nat) (t : xF) : Nat → Option (Nat × (Nat → Option xF))
  | 0 => none
  | n + 1 => match xru W t n with
    | some y => some y
    | none => match xmt (W n) t (fun _ => none) with
      | some e => some (n, e)
      | none => none
theorem xru_at {W : Nat → List Nat} {t : xF} {n r : Nat} {e : Nat → Option xF} (h : xru W t r = none) (he : xmt (W r) t (fun _ => none) = some e) (hr : r < n) : xru W t n = some (r, e) := by
  induction n with
  | zero => omega
  | succ n ih =>
    simp only [xru]
    by_cases hn : r = n
    · subst hn; rw [h, he]
    · rw [ih (by omega)]
theorem xru_next {W : Nat → List Nat} {t : xF} {r : Nat} (h : xru W t r = none) (he : xmt (W r) t (fun _ => none) = none) : xru W t (r + 1) = none := by simp only [xru]; rw [h, he]
theorem xru_s {W : Nat → List Nat} {t : xF} {n r : Nat} {e : Nat → Option xF} (h : xru W t n = some (r, e)) : r < n ∧ xmt (W r) t (fun _ => none) = some e := by
  induction n with
  | zero => cases h
  | succ n ih =>
    simp only [xru] at h
    split at h
    · rename_i y hy; cases h; have := ih hy; exact ⟨by omega, this.2⟩
    · split at h
      · rename_i e' he; cases h; exact ⟨by omega, he⟩
      · cases h
noncomputable def xcx (rd : Nat) (W : Nat → List Nat) (O : Nat → xF) (c : Nat) (k : xF) : Option xF := match xru W (.branch c k (.leaf ())) rd with
  | some (r, e) => some (xsb (fun x => (e x).getD (.leaf ())) (O r))
  | none => none
/-- the rules: fronts begin with a symbol, what stands in an other side stands in the front -/
def xRs (ar : Nat → Nat) (rd : Nat) (W : Nat → List Nat) (O : Nat → xF) : Prop := (∀ c, 100 ≤ c → ar c = 0) ∧ ∀ r, r < rd → (∃ g, W r = xp g ∧ xw ar g ∧ xl g = 1) ∧ (∃ x w, W r = x :: w ∧ x < 100) ∧ xw ar (O r) ∧ xl (O r) = 1 ∧ ∀ c, c ∈ xp (O r) → 100 ≤ c → c ∈ W r
section RX
variable {ar : Nat → Nat} {rd : Nat} {W : Nat → List Nat} {O : Nat → xF}
theorem xcx_root {r c : Nat} {k : xF} {e : Nat → Option xF} (hR : xRs ar rd W O) (hr : r < rd) (h : xmt (W r) (.branch c k (.leaf ())) (fun _ => none) = some e) : ∃ w, W r = c :: w ∧ c < 100 ∧ xmt w k (fun _ => none) = some e := by
  obtain ⟨x, w, e1, e2⟩ := (hR.2 r hr).2.1
  rw [e1] at h
  simp only [xmt] at h
  rw [if_pos e2] at h
  by_cases hc : c = x
  · subst hc
    rw [if_pos rfl, xap_nil] at h
    exact ⟨w, e1, e2, h⟩
  · rw [if_neg hc] at h; cases h
theorem xcx_1 (hR : xRs ar rd W O) : ∀ c k t, xcx rd W O c k = some t → xl t = 1 ∧ (xl k = ar c → xw ar k → xw ar t) ∧ c < 100 := by
  intro c k t h
  simp only [xcx] at h
  split at h
  · rename_i r e hz
    cases h
    obtain ⟨hr, hm⟩ := xru_s hz
    obtain ⟨w, e1, e2, e3⟩ := xcx_root hR hr hm
    obtain ⟨_, _, o1, o2, o3⟩ := hR.2 r hr
    have hd := (xmt_dom _ _ _ _ hm).2
    have hl : ∀ X : Nat → xF → Option xF, ∀ u S, xmt u S (fun _ => none) = some e → (∀ x v, e x = some v → xl v = 1) := by
      intro X u S q
      have : ∀ (u : List Nat) (S : xF) (e0 e : Nat → Option xF), (∀ x v, e0 x = some v → xl v = 1) → xmt u S e0 = some e → (∀ x v, e x = some v → xl v = 1) := by
        intro u
        induction u with
        | nil => intro S e0 e h0 h; cases h; exact h0
        | cons x u ih =>
          intro S e0 e h0 h
          cases S with
          | leaf _ => cases h
          | branch c k r =>
            simp only [xmt] at h
            split at h
            · split at h
              · exact ih _ _ _ h0 h
              · cases h
            · split at h
              · refine ih _ _ _ (fun y v hv => ?_) h
                by_cases hyx : y = x
                · subst hyx; simp only [va_up, if_true] at hv; cases hv; rfl
                · simp only [va_up, hyx, if_false] at hv; exact h0 y v hv
              · split at h
                · exact ih _ _ _ h0 h
                · cases h
      exact this u S _ e (fun x v hv => by cases hv) q
    have hl1 := hl (fun _ _ => none) _ _ hm
    have hv : ∀ c, c ∈ xp (O r) → 100 ≤ c → xl ((e c).getD (.leaf ())) = 1 := fun x hx hx' => by
      have := hd x (o3 x hx hx') hx'
      cases he : e x with
      | none => exact absurd he this
      | some u => exact hl1 x u he
    refine ⟨by rw [xsb_l (O r) hv, o2], fun hk hw => ?_, e2⟩
    refine xsb_w (O r) o1 (fun x hx hx' => ⟨hv x hx hx', ?_⟩)
    have hg := xmt_good (ar := ar) (X := fun _ _ => none) w k _ e (fun x u hu => by cases hu) hw (by
      have : ∀ f, xst (fun _ _ => none) f = none := by
        intro f
        induction f with
        | leaf _ => rfl
        | branch c k r i1 i2 => exact xst_n.mpr ⟨i1, rfl, i2⟩
      exact this k) e3
    cases he : e x with
    | none => exact absurd he (hd x (o3 x hx hx') hx')
    | some u => exact (hg x u he).2.1
  · cases h
end RX
/-! reducing -/
def xrd (X : Nat → xF → Option xF) : Nat → xF → Option (Nat × xF)
  | 0, T => match xst X T with
    | none => some (0, T)
    | some _ => none
  | n + 1, T => match xst X T with
    | none => some (0, T)
    | some T' => if 1000 < xz T' then none else match xrd X n T' with
      | none => none
      | some (m, U) => some (m + 1, U)
def xcs (e : Nat → Nat) : List Nat → Nat
  | [] => 0
  | c :: w => (if c < 100 then 1 else e c) + xcs e w
theorem xcs_ap {e : Nat → Nat} : ∀ a b : List Nat, xcs e (a ++ b) = xcs e a + xcs e b
  | [], b => by simp [xcs]
  | c :: a, b => by simp only [List.cons_append, xcs, xcs_ap a b]; omega
theorem xsb_z {ar : Nat → Nat} (ha : ∀ c, 100 ≤ c → ar c = 0) {e : Nat → xF} : ∀ g : xF, xw ar g → xz (xsb e g) = xcs (fun x => xz (e x)) (xp g)
  | (.leaf ()), _ => rfl
  | .branch c k r, w => by
    have h1 := xsb_z ha (e := e) k w.2.1
    have h2 := xsb_z ha (e := e) r w.2.2
    simp only [xsb, xp, xcs, xcs_ap]
    split
    · simp only [xz]; omega
    · rename_i hc
      have : k = (.leaf ()) := xl_0 (by rw [w.1]; exact ha c (by omega))
      subst this
      rw [xz_ap, h2]
      simp only [xp, xcs]; omega
theorem xst_z {X : Nat → xF → Option xF} : ∀ f o p, xbp X f o = some p → ∃ c k t f', X c k = some t ∧ xst X f = some f' ∧ xz f' + (1 + xz k) = xz f + xz t := by
  intro f o p h
  obtain ⟨A, c, k, t, f', B, e1, e2, e3, e4, e5⟩ := xbp_s f o p h
  refine ⟨c, k, t, f', e3, e4, ?_⟩
  rw [← xp_len f', ← xp_len f, e1, e5]
  simp only [List.length_append, List.length_cons, xp_len]
  omega
/-! a forest in the model's rows: codes and ends from the place o on -/
def xea (w en : Nat → Nat) : xF → Nat → Prop
  | (.leaf ()), _ => True
  | .branch c k r, o => w o = c ∧ en o = o + 1 + xz k ∧ xea w en k (o + 1) ∧ xea w en r (o + 1 + xz k)
theorem xea_ap {w en : Nat → Nat} : ∀ f g o, xea w en (xap f g) o ↔ xea w en f o ∧ xea w en g (o + xz f)
  | (.leaf ()), g, o => by simp [xap, xea, xz]
  | .branch c k r, g, o => by
    simp only [xap, xea, xea_ap r g, xz, and_assoc]
    rw [show o + 1 + xz k + xz r = o + (1 + xz k + xz r) by omega]
theorem xea_p {w en : Nat → Nat} : ∀ f o, xea w en f o → ∀ i, i < xz f → w (o + i) = (xp f).getD i 0
  | (.leaf ()), o, _, i, hi => by simp only [xz] at hi; omega
  | .branch c k r, o, ⟨h1, h2, h3, h4⟩, i, hi => by
    have hk := xea_p k (o + 1) h3
    have hr := xea_p r (o + 1 + xz k) h4
    simp only [xz] at hi
    simp only [xp]
    cases i with
    | zero => simp [h1]
    | succ i =>
      rw [List.getD_cons_succ]
      by_cases hik : i < xz k
      · rw [show o + (i + 1) = o + 1 + i by omega, hk i hik]
        rw [List.getD_eq_getElem?_getD, List.getD_eq_getElem?_getD, List.getElem?_append_left (by rw [xp_len]; exact hik)]
      · rw [show o + (i + 1) = o + 1 + xz k + (i - xz k) by omega, hr (i - xz k) (by omega)]
        rw [List.getD_eq_getElem?_getD, List.getD_eq_getElem?_getD, List.getElem?_append_right (by rw [xp_len]; omega), xp_len]
/-- the codes of a row -/
def xrow (w : Nat → Nat) (o n : Nat) : List Nat := (List.range n).map (fun i => w (o + i))
theorem xrow_len {w : Nat → Nat} {o n : Nat} : (xrow w o n).length = n := by simp [xrow]
theorem xrow_0 {w : Nat → Nat} {o : Nat} : xrow w o 0 = [] := rfl
theorem xrow_get {w : Nat → Nat} {o n i : Nat} (h : i < n) : (xrow w o n).getD i 0 = w (o + i) := by simp [xrow, List.getD_eq_getElem?_getD, h]
theorem xrow_add {w : Nat → Nat} {o n m : Nat} : xrow w o (n + m) = xrow w o n ++ xrow w (o + n) m := by
  simp only [xrow, List.range_add, List.map_append, List.map_map]
  congr 1
  apply List.map_congr_left
  intro i _
  simp only [Function.comp, Nat.add_assoc]
theorem xrow_s {w : Nat → Nat} {o n : Nat} : xrow w o (n + 1) = w o :: xrow w (o + 1) n := by
  rw [Nat.add_comm, xrow_add]
  rfl
theorem xrow_eq {w w' : Nat → Nat} {o o' n : Nat} : xrow w o n = xrow w' o' n ↔ ∀ i, i < n → w (o + i) = w' (o' + i) := by
  constructor
  · intro h i hi
    rw [← xrow_get (w := w) hi, h, xrow_get hi]
  · intro h
    apply List.map_congr_left
    intro i hi
    exact h i (List.mem_range.mp hi)
theorem xrow_ext {w w' : Nat → Nat} {o n : Nat} (h : ∀ i, o ≤ i → i < o + n → w i = w' i) : xrow w o n = xrow w' o n := xrow_eq.mpr (fun i hi => h (o + i) (by omega) (by omega))
theorem xrow_of {l : List Nat} : xrow (fun i => l.getD i 0) 0 l.length = l := by
  apply List.ext_getElem
  · rw [xrow_len]
  · intro i h1 h2
    simp only [xrow, List.getElem_map, List.getElem_range, Nat.zero_add]
    rw [List.getD_eq_getElem?_getD, List.getElem?_eq_getElem h2]
    rfl
theorem xea_row {w en : Nat → Nat} {f : xF} {o : Nat} (h : xea w en f o) : xrow w o (xz f) = xp f := by
  have := xea_p f o h
  rw [show xp f = xrow (fun i => (xp f).getD i 0) 0 (xz f) by rw [← xp_len, xrow_of]]
  exact xrow_eq.mpr (fun i hi => by rw [this i hi, Nat.zero_add])
/-! rows of nodes that are terms are forests -/
theorem xS_for {ar w : Nat → Nat} {k p e : Nat} (h : zS (fun i => ar (w i)) k p e) : ∃ f, xw ar f ∧ xl f = k ∧ p + xz f = e ∧ xrow w p (xz f) = xp f := by
  obtain ⟨n, h⟩ := h
  induction n generalizing k p with
  | zero =>
    cases k with
    | zero => cases h; exact ⟨(.leaf ()), trivial, rfl, rfl, rfl⟩
    | succ k => cases h
  | succ n ih =>
    cases k with
    | zero => rw [zsc_0] at h; cases h; exact ⟨(.leaf ()), trivial, rfl, rfl, rfl⟩
    | succ k =>
      obtain ⟨f, h1, h2, h3, h4⟩ := ih (k := k + ar (w p)) (p := p + 1) h
      obtain ⟨x, y, e1, e2⟩ := xcut f (ar (w p)) (by omega)
      subst e1
      rw [xw_ap] at h1
      rw [xl_ap] at h2
      rw [xz_ap] at h3 h4
      refine ⟨.branch (w p) x y, ⟨e2, h1.1, h1.2⟩, by simp only [xl]; omega, by simp only [xz]; omega, ?_⟩
      simp only [xz, xp]
      rw [show 1 + xz x + xz y = (xz x + xz y) + 1 by omega, xrow_s, h4, xp_ap]
theorem xfor_S {ar w : Nat → Nat} : ∀ f p, xw ar f → xrow w p (xz f) = xp f → zS (fun i => ar (w i)) (xl f) p (p + xz f)
  | (.leaf ()), p, _, _ => zS_0
  | .branch c k r, p, ⟨h1, h2, h3⟩, h => by
    simp only [xz, xp] at h
    rw [show 1 + xz k + xz r = (xz k + xz r) + 1 by omega, xrow_s] at h
    injection h with e1 e2
    rw [xrow_add] at e2
    obtain ⟨e3, e4⟩ := List.append_inj e2 (by rw [xrow_len, xp_len])
    have a1 := xfor_S k (p + 1) h2 e3
    have a2 := xfor_S r (p + 1 + xz k) h3 e4
    simp only [xl, xz]
    refine zS_s ?_
    rw [e1, Nat.add_comm, ← h1]
    have := zS_app a1 a2
    rwa [show p + 1 + xz k + xz r = p + (1 + xz k + xz r) by omega] at this
/-- ends by zS give xea -/
theorem xea_of {ar w en : Nat → Nat} {n : Nat} (hen : ∀ p, p < n → zS (fun i => ar (w i)) 1 p (en p)) : ∀ f p, xw ar f → p + xz f ≤ n → xrow w p (xz f) = xp f → xea w en f p
  | (.leaf ()), p, _, _, _ => trivial
  | .branch c k r, p, ⟨h1, h2, h3⟩, hn, h => by
    simp only [xz] at hn
    simp only [xz, xp] at h
    rw [show 1 + xz k + xz r = (xz k + xz r) + 1 by omega, xrow_s] at h
    injection h with e1 e2
    rw [xrow_add] at e2
    obtain ⟨e3, e4⟩ := List.append_inj e2 (by rw [xrow_len, xp_len])
    refine ⟨e1, ?_, xea_of hen k (p + 1) h2 (by omega) e3, xea_of hen r (p + 1 + xz k) h3 (by omega) e4⟩
    have a1 := xfor_S k (p + 1) h2 e3
    have a2 := hen p (by omega)
    refine zS_uni a2 (zS_1 ?_)
    show zS _ (ar (w p)) (p + 1) _
    rw [e1, ← h1]
    exact a1
/-! a forest in the class's heap: c at a place, its size, where its parts are -/
def xhn (cc : Nat → Int32) (h : Nat → Int32) (top : Nat) : xF → List Nat → Prop
  | (.leaf ()), as => as = []
  | .branch c k r, as => ∃ a as' cs, as = a :: as' ∧ h a = cc c ∧ h (a + 1) = nI (1 + xz k) ∧ a + 2 + xl k ≤ top ∧ (∀ i, i < xl k → h (a + 2 + i) = nI (cs.getD i 0)) ∧ xhn cc h top k cs ∧ xhn cc h top r as'
section HN
variable {cc : Nat → Int32} {h h' : Nat → Int32} {top top' : Nat}
theorem xhn_len : ∀ f as, xhn cc h top f as → as.length = xl f
  | (.leaf ()), as, e => by rw [e]; rfl
  | .branch c k r, as, ⟨a, as', cs, e1, e2, e3, e4, e5, e6, e7⟩ => by rw [e1, List.length_cons, xhn_len r as' e7]; rfl
theorem xhn_ap : ∀ f g as bs, xhn cc h top f as → xhn cc h top g bs → xhn cc h top (xap f g) (as ++ bs)
  | (.leaf ()), g, as, bs, e, h' => by rw [e]; exact h'
  | .branch c k r, g, as, bs, ⟨a, as', cs, e1, e2, e3, e4, e5, e6, e7⟩, h' => ⟨a, as' ++ bs, cs, by rw [e1]; rfl, e2, e3, e4, e5, e6, xhn_ap r g as' bs e7 h'⟩
theorem xhn_de : ∀ f g as, xhn cc h top (xap f g) as → ∃ bs ds, as = bs ++ ds ∧ xhn cc h top f bs ∧ xhn cc h top g ds
  | (.leaf ()), g, as, e => ⟨[], as, rfl, rfl, e⟩
  | .branch c k r, g, as, ⟨a, as', cs, e1, e2, e3, e4, e5, e6, e7⟩ => by
    obtain ⟨bs, ds, d1, d2, d3⟩ := xhn_de r g as' e7
    exact ⟨a :: bs, ds, by rw [e1, d1]; rfl, ⟨a, bs, cs, rfl, e2, e3, e4, e5, e6, d2⟩, d3⟩
theorem xhn_fr (ht : top ≤ top') (hh : ∀ i, i < top → h' i = h i) : ∀ f as, xhn cc h top f as → xhn cc h' top' f as
  | (.leaf ()), as, e => e
  | .branch c k r, as, ⟨a, as', cs, e1, e2, e3, e4, e5, e6, e7⟩ => ⟨a, as', cs, e1, by rw [hh a (by omega)]; exact e2, by rw [hh (a + 1) (by omega)]; exact e3, by omega, fun i hi => by rw [hh (a + 2 + i) (by omega)]; exact e5 i hi, xhn_fr ht hh k cs e6, xhn_fr ht hh r as' e7⟩
theorem xhn_lt : ∀ f as, xhn cc h top f as → ∀ a, a ∈ as → a + 2 ≤ top
  | (.leaf ()), as, e, a, ha => by rw [e] at ha; cases ha
  | .branch c k r, as, ⟨a, as', cs, e1, e2, e3, e4, e5, e6, e7⟩, b, hb => by
    rw [e1] at hb
    rcases List.mem_cons.mp hb with q | q
    · omega
    · exact xhn_lt r as' e7 b q
end HN
/-! a row turned round -/
def xpo : xF → List Nat
  | (.leaf ()) => []
  | .branch c k r => xpo k ++ c :: xpo r
theorem xpo_len : ∀ f, (xpo f).length = xz f
  | (.leaf ()) => rfl
  | .branch c k r => by simp only [xpo, xz, List.length_append, List.length_cons, xpo_len k, xpo_len r]; omega
theorem xpo_mem : ∀ f c, c ∈ xpo f ↔ c ∈ xp f
  | (.leaf ()), c => Iff.rfl
  | .branch d k r, c => by
    simp only [xpo, xp, List.mem_append, List.mem_cons, xpo_mem k c, xpo_mem r c]
    constructor
    · rintro (h | h | h)
      · exact Or.inr (Or.inl h)
      · exact Or.inl h
      · exact Or.inr (Or.inr h)
    · rintro (h | h | h)
      · exact Or.inr (Or.inl h)
      · exact Or.inl h
      · exact Or.inr (Or.inr h)
/-- nodes whose parts have all come are laid -/
def xcl : List (Nat × Nat) → List Nat → List (Nat × Nat) × List Nat
  | [], out => ([], out)
  | (c, m) :: stk, out => if 1 < m then ((c, m - 1) :: stk, out) else xcl stk (out ++ [c])
def xts (ar : Nat → Nat) (x : Nat) (s : List (Nat × Nat) × List Nat) : List (Nat × Nat) × List Nat := if 0 < ar x then ((x, ar x) :: s.1, s.2) else xcl s.1 (s.2 ++ [x])
def xtr (ar : Nat → Nat) : List Nat → List (Nat × Nat) × List Nat → List (Nat × Nat) × List Nat
  | [], s => s
  | x :: w, s => xtr ar w (xts ar x s)
theorem xtr_ap {ar : Nat → Nat} : ∀ a b s, xtr ar (a ++ b) s = xtr ar b (xtr ar a s)
  | [], b, s => rfl
  | x :: a, b, s => xtr_ap a b (xts ar x s)
/-- n terms have come over the stack -/
def xfi (n : Nat) : List (Nat × Nat) → List Nat → List (Nat × Nat) × List Nat
  | [], out => ([], out)
  | (c, m) :: stk, out => if n = 0 then ((c, m) :: stk, out) else if n < m then ((c, m - n) :: stk, out) else xcl stk (out ++ [c])
def xfo (n : Nat) : List (Nat × Nat) → Prop
  | [] => True
  | (_, m) :: _ => n ≤ m
theorem xtr_f {ar : Nat → Nat} : ∀ f, xw ar f → ∀ stk out, xfo (xl f) stk → xtr ar (xp f) (stk, out) = xfi (xl f) stk (out ++ xpo f)
  | (.leaf ()), _, stk, out, _ => by
    simp only [xp, xtr, xl, xpo, List.append_nil]
    cases stk with
    | nil => rfl
    | cons a stk => obtain ⟨c, m⟩ := a; simp only [xfi, if_true]
  | .branch c k r, ⟨h1, h2, h3⟩, stk, out, hs => by
    have step : xtr ar (c :: xp k) (stk, out) = xcl stk (out ++ xpo k ++ [c]) := by
      simp only [xtr, xts]
      by_cases ha : 0 < ar c
      · rw [if_pos ha, xtr_f k h2 ((c, ar c) :: stk) out (by simp only [xfo]; omega)]
        simp only [xfi]
        rw [if_neg (by omega), if_neg (by omega)]
      · rw [if_neg ha]
        have : k = (.leaf ()) := xl_0 (by omega)
        subst this
        simp only [xp, xtr, xpo, List.append_nil]
    rw [show xp (.branch c k r) = (c :: xp k) ++ xp r from rfl, xtr_ap, step]
    cases stk with
    | nil =>
      simp only [xcl]
      rw [xtr_f r h3 [] _ trivial]
      simp only [xfi, xpo, List.append_assoc, List.singleton_append]
    | cons a stk =>
      obtain ⟨c0, m⟩ := a
      simp only [xl, xfo] at hs
      simp only [xcl]
      by_cases hm : 1 < m
      · rw [if_pos hm, xtr_f r h3 ((c0, m - 1) :: stk) _ (by simp only [xfo]; omega)]
        simp only [xfi, xl, xpo, List.append_assoc, List.singleton_append]
        by_cases hr : xl r = 0
        · have : r = (.leaf ()) := xl_0 hr
          subst this
          rw [if_pos hr, if_neg (show ¬ xl (.leaf ()) + 1 = 0 by omega), if_pos (show xl (.leaf ()) + 1 < m by omega)]
          rfl
        · rw [if_neg hr, if_neg (show ¬ xl r + 1 = 0 by omega)]
          by_cases hlt : xl r < m - 1
          · rw [if_pos hlt, if_pos (by omega), show m - 1 - xl r = m - (xl r + 1) by omega]
          · rw [if_neg hlt, if_neg (by omega)]
      · rw [if_neg hm]
        have hr : xl r = 0 := by omega
        have : r = (.leaf ()) := xl_0 hr
        subst this
        simp only [xp, xtr, xfi, xpo, List.append_assoc, List.singleton_append]
        rw [if_neg (show ¬ xl (.branch c k (.leaf ())) = 0 by simp only [xl]; omega), if_neg (show ¬ xl (.branch c k (.leaf ())) < m by simp only [xl]; omega)]
theorem xtr_all {ar : Nat → Nat} {f : xF} (h : xw ar f) : xtr ar (xp f) ([], []) = ([], xpo f) := by
  rw [xtr_f f h [] [] trivial]
  rfl
/-- how deep it gets -/
theorem xcl_len : ∀ stk out, (xcl stk out).1.length ≤ stk.length ∧ ((xcl stk out).1.length = stk.length ∨ True)
  | [], out => ⟨Nat.le_refl _, Or.inr trivial⟩
  | (c, m) :: stk, out => by
    refine ⟨?_, Or.inr trivial⟩
    simp only [xcl]
    split
    · simp
    · have := (xcl_len stk (out ++ [c])).1; simp only [List.length_cons]; omega
/-- what is laid and what waits are as many as have come -/
theorem xcl_sum : ∀ stk out, (xcl stk out).1.length + (xcl stk out).2.length = stk.length + out.length
  | [], out => rfl
  | (c, m) :: stk, out => by
    simp only [xcl]
    split
    · simp
    · have := xcl_sum stk (out ++ [c]); simp only [List.length_append, List.length_cons, List.length_nil] at this ⊢; omega
theorem xts_sum {ar : Nat → Nat} {x : Nat} {s : List (Nat × Nat) × List Nat} : (xts ar x s).1.length + (xts ar x s).2.length = s.1.length + s.2.length + 1 := by
  simp only [xts]
  split
  · simp only [List.length_cons]; omega
  · rw [xcl_sum]; simp only [List.length_append, List.length_cons, List.length_nil]; omega
theorem xtr_sum {ar : Nat → Nat} : ∀ w s, (xtr ar w s).1.length + (xtr ar w s).2.length = s.1.length + s.2.length + w.length
  | [], s => by simp [xtr]
  | x :: w, s => by simp only [xtr]; rw [xtr_sum w, xts_sum]; simp only [List.length_cons]; omega
/-- what a row is turned into, as far as it is laid -/
theorem xit_po {e : Nat → xF} {ar : Nat → Nat} (ha : ∀ c, 100 ≤ c → ar c = 0) : ∀ g : xF, xw ar g → xit e g = (xpo g).map (fun c => if c < 100 then Sum.inl c else Sum.inr (e c))
  | (.leaf ()), _ => rfl
  | .branch c k r, w => by
    simp only [xit, xpo, List.map_append, List.map_cons, ← xit_po ha k w.2.1, ← xit_po ha r w.2.2]
    by_cases hc : c < 100
    · rw [if_pos hc, if_pos hc]
    · rw [if_neg hc, if_neg hc]
      have : k = (.leaf ()) := xl_0 (by rw [w.1]; exact ha c (by omega))
      subst this
      simp [xit]
