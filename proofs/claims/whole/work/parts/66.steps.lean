/-! a step, where it is in a row -/
theorem xof_eq {ar w : Nat → Nat} {g : xF} (h1 : xw ar g) (h2 : xl g = 1) (h3 : xrow w 0 (xz g) = xp g) : xof ar w (xz g) = g := by
  have hx : ∃ g', xw ar g' ∧ xl g' = 1 ∧ xz g' = xz g ∧ xrow w 0 (xz g) = xp g' := ⟨g, h1, h2, rfl, h3⟩
  rw [xof, dif_pos hx]
  obtain ⟨a1, a2, a3, a4⟩ := Classical.choose_spec hx
  exact xp_in a1 h1 (by rw [a2, h2]) (a4.symm.trans h3)
/-- whether a rule fits the term at a place -/
noncomputable def xrr (X : Nat → xF → Option xF) (ar w en : Nat → Nat) (p : Nat) : Bool := match xof ar (fun i => w (p + i)) (en p - p) with
  | .branch c k _ => (X c k).isSome
  | .leaf _ => false
theorem xrr_eq {X : Nat → xF → Option xF} {ar w en : Nat → Nat} {p c : Nat} {k : xF} (h1 : xl k = ar c) (h2 : xw ar k) (h : xea w en (.branch c k (.leaf ())) p) : xrr X ar w en p = (X c k).isSome := by
  have h3 : en p - p = xz (.branch c k (.leaf ())) := by have := h.2.1; simp only [xz]; omega
  have h4 : xrow (fun i => w (p + i)) 0 (xz (.branch c k (.leaf ()))) = xp (.branch c k (.leaf ())) := by
    have := xea_row h
    rw [← this]
    exact xrow_eq.mpr (fun i _ => by rw [Nat.zero_add])
  have h5 : xw ar (.branch c k (.leaf ())) := ⟨h1, h2, trivial⟩
  rw [xrr, h3, xof_eq h5 rfl h4]
theorem xat_of {X : Nat → xF → Option xF} {ar w en : Nat → Nat} : ∀ f o, xw ar f → xea w en f o → xat X (xrr X ar w en) en f o
  | .leaf (), _, _, _ => trivial
  | .branch c k r, o, ⟨h1, h2, h3⟩, ⟨e1, e2, e3, e4⟩ => ⟨xrr_eq h1 h2 ⟨e1, e2, e3, trivial⟩, e2, xat_of k (o + 1) h2 e3, xat_of r (o + 1 + xz k) h3 e4⟩
theorem xea_sub {ar w en : Nat → Nat} : ∀ f o p, xw ar f → xea w en f o → o ≤ p → p < o + xz f → ∃ c k, xl k = ar c ∧ xw ar k ∧ p + (1 + xz k) ≤ o + xz f ∧ xea w en (.branch c k (.leaf ())) p
  | .leaf (), o, p, _, _, h1, h2 => by simp only [xz] at h2; omega
  | .branch c k r, o, p, ⟨w1, w2, w3⟩, ⟨e1, e2, e3, e4⟩, h1, h2 => by
    simp only [xz] at h2 ⊢
    by_cases q : p = o
    · subst q; exact ⟨c, k, w1, w2, by omega, e1, e2, e3, trivial⟩
    · by_cases q2 : p < o + 1 + xz k
      · obtain ⟨c', k', a1, a2, a3, a4⟩ := xea_sub k (o + 1) p w2 e3 (by omega) (by omega)
        exact ⟨c', k', a1, a2, by omega, a4⟩
      · obtain ⟨c', k', a1, a2, a3, a4⟩ := xea_sub r (o + 1 + xz k) p w3 e4 (by omega) (by omega)
        exact ⟨c', k', a1, a2, by omega, a4⟩
theorem xbp_t {X : Nat → xF → Option xF} {ar w en : Nat → Nat} : ∀ f o p, xw ar f → xea w en f o → xbp X f o = some p → ∃ c k t f', xl k = ar c ∧ xw ar k ∧ xea w en (.branch c k (.leaf ())) p ∧ o ≤ p ∧ p + (1 + xz k) ≤ o + xz f ∧ X c k = some t ∧ xst X f = some f' ∧ xp f' = xrow w o (p - o) ++ (xp t ++ xrow w (p + (1 + xz k)) (o + xz f - (p + (1 + xz k))))
  | .leaf (), o, p, _, _, h => by cases h
  | .branch c k r, o, p, ⟨w1, w2, w3⟩, ⟨e1, e2, e3, e4⟩, h => by
    simp only [xbp] at h
    have hrr := xea_row e4
    have hkk := xea_row e3
    cases hk : xbp X k (o + 1) with
    | some p' =>
      rw [hk] at h
      cases h
      obtain ⟨c1, k1, t, f', a1, a2, a3, a4, a5, a6, a7, a8⟩ := xbp_t k (o + 1) p w2 e3 hk
      refine ⟨c1, k1, t, .branch c f' r, a1, a2, a3, by omega, by simp only [xz]; omega, a6, by simp only [xst, a7], ?_⟩
      simp only [xp, xz, a8]
      rw [← hrr, show p - o = (p - (o + 1)) + 1 by omega, xrow_s, e1, show o + (1 + xz k + xz r) - (p + (1 + xz k1)) = (o + 1 + xz k - (p + (1 + xz k1))) + xz r by omega, xrow_add, show p + (1 + xz k1) + (o + 1 + xz k - (p + (1 + xz k1))) = o + 1 + xz k by omega]
      simp only [List.cons_append, List.append_assoc]
    | none =>
      have hn := (xbp_n k (o + 1)).mp hk
      rw [hk] at h
      cases hx : X c k with
      | some t =>
        rw [hx] at h
        cases h
        refine ⟨c, k, t, xap t r, w1, w2, ⟨e1, e2, e3, trivial⟩, Nat.le_refl _, by simp only [xz]; omega, hx, by simp only [xst, hn, hx], ?_⟩
        simp only [xz]
        rw [xp_ap, Nat.sub_self, xrow_0, List.nil_append, ← hrr, show o + (1 + xz k + xz r) - (o + (1 + xz k)) = xz r by omega, show o + (1 + xz k) = o + 1 + xz k by omega]
      | none =>
        rw [hx] at h
        obtain ⟨c1, k1, t, f', a1, a2, a3, a4, a5, a6, a7, a8⟩ := xbp_t r (o + 1 + xz k) p w3 e4 h
        refine ⟨c1, k1, t, .branch c k f', a1, a2, a3, by omega, by simp only [xz]; omega, a6, by simp only [xst, hn, hx, a7], ?_⟩
        simp only [xp, xz, a8]
        rw [← hkk, show p - o = (xz k + (p - (o + 1 + xz k))) + 1 by omega, xrow_s, e1, xrow_add, show o + 1 + xz k + xz r - (p + (1 + xz k1)) = o + (1 + xz k + xz r) - (p + (1 + xz k1)) by omega]
        simp only [List.cons_append, List.append_assoc]
/-- the codes of a side with terms put in -/
def xpl (e : Nat → xF) : List Nat → List Nat
  | [] => []
  | x :: w => (if x < 100 then [x] else xp (e x)) ++ xpl e w
theorem xpl_ap {e : Nat → xF} : ∀ a b, xpl e (a ++ b) = xpl e a ++ xpl e b
  | [], b => rfl
  | x :: a, b => by simp only [List.cons_append, xpl, xpl_ap a b, List.append_assoc]
theorem xsb_p {ar : Nat → Nat} (ha : ∀ c, 100 ≤ c → ar c = 0) {e : Nat → xF} : ∀ g : xF, xw ar g → xp (xsb e g) = xpl e (xp g)
  | .leaf (), _ => rfl
  | .branch c k r, w => by
    have h1 := xsb_p ha (e := e) k w.2.1
    have h2 := xsb_p ha (e := e) r w.2.2
    simp only [xsb, xp, xpl, xpl_ap]
    by_cases hc : c < 100
    · rw [if_pos hc, if_pos hc]
      simp only [xp, h1, h2, List.cons_append, List.nil_append]
    · rw [if_neg hc, if_neg hc]
      have : k = .leaf () := xl_0 (by rw [w.1]; exact ha c (by omega))
      subst this
      rw [xp_ap, h2]
      simp only [xp, xpl, List.nil_append]
/-- what is bound is made of what was there -/
theorem xmt_mem : ∀ (w : List Nat) (S : xF) (e e' : Nat → Option xF) (M : Nat → Prop), (∀ x u, e x = some u → ∀ y, y ∈ xp u → M y) → (∀ y, y ∈ xp S → M y) → xmt w S e = some e' → ∀ x u, e' x = some u → ∀ y, y ∈ xp u → M y
  | [], S, e, e', M, h1, h2, h => by cases h; exact h1
  | x :: w, .leaf (), e, e', M, h1, h2, h => by cases h
  | x :: w, .branch c k r, e, e', M, h1, h2, h => by
    have hk : ∀ y, y ∈ xp k → M y := fun y hy => h2 y (by simp only [xp, List.mem_cons, List.mem_append]; exact Or.inr (Or.inl hy))
    have hr : ∀ y, y ∈ xp r → M y := fun y hy => h2 y (by simp only [xp, List.mem_cons, List.mem_append]; exact Or.inr (Or.inr hy))
    have hc : M c := h2 c (by simp [xp])
    simp only [xmt] at h
    split at h
    · split at h
      · exact xmt_mem w _ e e' M h1 (fun y hy => by rw [xp_ap, List.mem_append] at hy; rcases hy with q | q; exact hk y q; exact hr y q) h
      · cases h
    · split at h
      · refine xmt_mem w r _ e' M (fun y u hu z hz => ?_) hr h
        by_cases hyx : y = x
        · subst hyx
          simp only [va_up, if_true] at hu
          cases hu
          simp only [xp, List.append_nil, List.mem_cons] at hz
          rcases hz with q | q
          · subst q; exact hc
          · exact hk z q
        · simp only [va_up, hyx, if_false] at hu
          exact h1 y u hu z hz
      · split at h
        · exact xmt_mem w r e e' M h1 hr h
        · cases h
theorem xpl_mem {e : Nat → xF} {y : Nat} : ∀ l, y ∈ xpl e l → (y ∈ l ∧ y < 100) ∨ ∃ x, x ∈ l ∧ 100 ≤ x ∧ y ∈ xp (e x)
  | [], h => by cases h
  | x :: l, h => by
    simp only [xpl, List.mem_append] at h
    rcases h with q | q
    · by_cases hx : x < 100
      · rw [if_pos hx] at q
        simp at q
        subst q
        exact Or.inl ⟨by simp, hx⟩
      · rw [if_neg hx] at q
        exact Or.inr ⟨x, by simp, by omega, q⟩
    · rcases xpl_mem l q with ⟨a, b⟩ | ⟨z, a, b, c⟩
      · exact Or.inl ⟨List.mem_cons_of_mem _ a, b⟩
      · exact Or.inr ⟨z, List.mem_cons_of_mem _ a, b, c⟩
