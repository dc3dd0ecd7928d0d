/-! the parts of a node in a row -/
noncomputable def zen (a : Nat → Nat) (p : Nat) : Nat := @dite Nat (∃ e, zS a 1 p e) (Classical.propDecidable _) (fun h => Classical.choose h) (fun _ => p)
theorem zen_eq {a : Nat → Nat} {p e : Nat} (h : zS a 1 p e) : zen a p = e := by
  have hx : ∃ e, zS a 1 p e := ⟨e, h⟩
  rw [zen, dif_pos hx]
  exact zS_uni (Classical.choose_spec hx) h
/-- where part i of the node at p begins -/
noncomputable def zcpt (a : Nat → Nat) (p : Nat) : Nat → Nat
  | 0 => p + 1
  | i + 1 => zen a (zcpt a p i)
theorem zcpt_S {a : Nat → Nat} {p e : Nat} (h : zS a 1 p e) : ∀ i, i ≤ a p → zS a i (p + 1) (zcpt a p i) ∧ zS a (a p - i) (zcpt a p i) e
  | 0, _ => ⟨zS_0, by rw [Nat.sub_zero]; exact zS_1' h⟩
  | i + 1, hi => by
    obtain ⟨h1, h2⟩ := zcpt_S h i (by omega)
    rw [show a p - i = 1 + (a p - (i + 1)) by omega] at h2
    obtain ⟨m, m1, m2⟩ := zS_dec h2
    have e1 : zcpt a p (i + 1) = m := zen_eq m1
    rw [e1]
    exact ⟨zS_app h1 m1, m2⟩
theorem zcpt_e {a : Nat → Nat} {p e : Nat} (h : zS a 1 p e) : zcpt a p (a p) = e := by
  have := (zcpt_S h (a p) (Nat.le_refl _)).2
  rw [Nat.sub_self] at this
  exact zS_0' this
theorem zcpt_1 {a : Nat → Nat} {p e i : Nat} (h : zS a 1 p e) (hi : i < a p) : zS a 1 (zcpt a p i) (zcpt a p (i + 1)) ∧ p < zcpt a p i ∧ zcpt a p i < zcpt a p (i + 1) ∧ zcpt a p (i + 1) ≤ e := by
  obtain ⟨h1, h2⟩ := zcpt_S h i (by omega)
  obtain ⟨h3, h4⟩ := zcpt_S h (i + 1) (by omega)
  rw [show a p - i = 1 + (a p - (i + 1)) by omega] at h2
  obtain ⟨m, m1, m2⟩ := zS_dec h2
  have e1 : zcpt a p (i + 1) = m := zen_eq m1
  have l1 := zS_le h1
  have l2 := zS_le m1
  have l4 := zS_le h4
  rw [e1] at l4 ⊢
  exact ⟨m1, by omega, by omega, by omega⟩
theorem zcpt_m {a : Nat → Nat} {p e : Nat} (h : zS a 1 p e) : ∀ d i, i + d ≤ a p → zcpt a p i + d ≤ zcpt a p (i + d)
  | 0, i, _ => Nat.le_refl _
  | d + 1, i, hi => by
    have h1 := zcpt_m h d i (by omega)
    have h2 := (zcpt_1 h (i := i + d) (by omega)).2.2.1
    show zcpt a p i + (d + 1) ≤ zcpt a p (i + d + 1)
    omega
/-- a part begins before the node's end just where there is one -/
theorem zcpt_lt {a : Nat → Nat} {p e i : Nat} (h : zS a 1 p e) (hi : i ≤ a p) : zcpt a p i < e ↔ i < a p := by
  have h1 := zcpt_e h
  have h2 := zcpt_m h (a p - i) i (by omega)
  rw [show i + (a p - i) = a p by omega, h1] at h2
  constructor
  · intro q
    rcases Nat.lt_or_ge i (a p) with g | g
    · exact g
    · have : i = a p := by omega
      subst this
      omega
  · intro q; omega
