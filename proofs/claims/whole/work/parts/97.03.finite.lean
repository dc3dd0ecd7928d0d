/-! no class is in itself, pure -/
def uFi (nd : Nat → Prop) (cd ar : Nat → Nat) (ch : Nat → Nat → Nat) (jn rt : Nat → Nat) (sy : Nat → Option Nat) (seen : Nat → Bool) (ρ : Nat → Nat) (τ : Nat) : Prop := ∀ r, seen r = true → nd r ∧ jn r = r ∧ ρ r < τ ∧ ∀ s, sy r = some s → ∀ k, k < ar (cd s) → seen (rt (ch s k)) = true ∧ ρ (rt (ch s k)) < ρ r
section FI
variable {nd In : Nat → Prop} {cd ar : Nat → Nat} {ch : Nat → Nat → Nat} {p q : Nat} {jn rt : Nat → Nat} {sy : Nat → Option Nat} {D S : Nat} {seen : Nat → Bool} {ρ : Nat → Nat} {τ : Nat}
theorem uFi_add (h : uFi nd cd ar ch jn rt sy seen ρ τ) {r : Nat} (nr : nd r) (jr : jn r = r) (hs : seen r = false) (hp : ∀ s, sy r = some s → ∀ k, k < ar (cd s) → seen (rt (ch s k)) = true) : uFi nd cd ar ch jn rt sy (va_up seen r true) (va_up ρ r τ) (τ + 1) := by
  have e1 : ∀ z, seen z = true → va_up seen r true z = true ∧ va_up ρ r τ z = ρ z := by
    intro z hz
    have : z ≠ r := fun e => by rw [e, hs] at hz; cases hz
    exact ⟨by simp [va_up, this]; exact hz, by simp [va_up, this]⟩
  intro z hz
  by_cases ez : z = r
  · subst ez
    refine ⟨nr, jr, by simp [va_up], fun s h1 k hk => ?_⟩
    have h2 := hp s h1 k hk
    obtain ⟨a1, a2⟩ := e1 _ h2
    refine ⟨a1, ?_⟩
    rw [a2]
    simp only [va_up, if_true]
    exact (h _ h2).2.2.1
  · simp only [va_up, ez, if_false] at hz
    obtain ⟨z1, z2, z3, z4⟩ := h z hz
    refine ⟨z1, z2, by simp only [va_up, ez, if_false]; omega, fun s h1 k hk => ?_⟩
    obtain ⟨b1, b2⟩ := z4 s h1 k hk
    obtain ⟨a1, a2⟩ := e1 _ b1
    exact ⟨a1, by rw [a2]; simp only [va_up, ez, if_false]; exact b2⟩
theorem uFi_good (hU : uUF nd In cd ar ch p q jn rt sy D [] S) (hnd : ∀ x, In x → nd x) (h : uFi nd cd ar ch jn rt sy seen ρ τ) (hall : ∀ x, In x → cd x < 100 → seen (rt x) = true) : ucl In cd ch ar p q (fun u v => rt u = rt v) ∧ uok In cd ch ar (fun u v => rt u = rt v) := by
  have hE := uUF_end hU hnd
  obtain ⟨h1, h2, h3, h4, h5, h6, h7, h8, h9, h10⟩ := hU
  have hR : ueq (fun u v => rt u = rt v) := ⟨fun _ => rfl, fun _ _ e => e.symm, fun _ _ _ e f => e.trans f⟩
  obtain ⟨g1, g2⟩ := h8 _ hR (fun _ _ _ _ e => e) (fun a ha => by cases ha)
  refine ⟨hE.1, ⟨fun x y ix iy hx hy e => ?_, fun x => ρ (rt x), fun x y e => congrArg ρ e, fun x k ix hx hk => ?_⟩⟩
  · obtain ⟨s, s1, s2⟩ := h4 x (hnd x ix) hx
    obtain ⟨t, t1, t2⟩ := h4 y (hnd y iy) hy
    have e' : rt x = rt y := e
    rw [e', t1] at s1
    cases s1
    rw [← s2, t2]
  · obtain ⟨s, s1, s2⟩ := h4 x (hnd x ix) hx
    have := ((h (rt x) (hall x ix hx)).2.2.2 s s1 k (by rw [s2]; exact hk)).2
    have e := g2 x s k (hnd x ix) hx s1 hk
    dsimp only at e ⊢
    rw [e]
    exact this
theorem uFi_stuck (hU : uUF nd In cd ar ch p q jn rt sy D [] S) (hnd : ∀ x, In x → nd x) (hW : uwf In cd ch ar) (hp : In p) (h0 : seen (rt p) = false) (h : ∀ r, nd r → jn r = r → seen r = false → ∃ s k, sy r = some s ∧ k < ar (cd s) ∧ seen (rt (ch s k)) = false) : ¬ ∃ E, ucl In cd ch ar p q E ∧ uok In cd ch ar E := by
  rintro ⟨E, e1, e2⟩
  have hl := (uUF_end hU hnd).2 E e1 e2
  obtain ⟨h1, h2, h3, h4, h5, h6, h7, h8, h9, h10⟩ := hU
  obtain ⟨σ, r1, r2⟩ := e2.2
  have key : ∀ N x, In x → σ x ≤ N → seen (rt x) = true := by
    intro N
    induction N with
    | zero =>
      intro x ix hN
      cases hx : seen (rt x) with
      | true => rfl
      | false =>
        obtain ⟨x1, x2, x3, x4, x5⟩ := h1 x (hnd x ix)
        obtain ⟨s, k, s1, s2, s3⟩ := h (rt x) x2 x3 hx
        obtain ⟨t1, t2, t3⟩ := h3 _ s x2 x3 s1
        have is := h5 x s ix s1
        have := r2 s k is t2 s2
        have := r1 _ _ (hl x s ix is t3.symm)
        omega
    | succ N ih =>
      intro x ix hN
      cases hx : seen (rt x) with
      | true => rfl
      | false =>
        obtain ⟨x1, x2, x3, x4, x5⟩ := h1 x (hnd x ix)
        obtain ⟨s, k, s1, s2, s3⟩ := h (rt x) x2 x3 hx
        obtain ⟨t1, t2, t3⟩ := h3 _ s x2 x3 s1
        have is := h5 x s ix s1
        have a1 := r2 s k is t2 s2
        have a2 := r1 _ _ (hl x s ix is t3.symm)
        rw [ih (ch s k) (hW.2 s is k s2) (by omega)] at s3
        cases s3
  rw [key (σ p) p hp (Nat.le_refl _)] at h0
  cases h0
theorem uUF_D {W : List (Nat × Nat)} (h : uUF nd In cd ar ch p q jn rt sy D W S) : uUF nd In cd ar ch p q jn rt sy (D + 1) W S := by
  obtain ⟨h1, ⟨d, h2⟩, h3⟩ := h
  exact ⟨h1, ⟨d, fun x nx => ⟨by have := (h2 x nx).1; omega, (h2 x nx).2⟩⟩, h3⟩
end FI
section FK
variable {K : tK} {i j p B : Nat}
/-- what holds of a node and goes down to parts holds of all below it -/
theorem u_down (hK : zKv K) (hi : i < K.rd) (hj : j < K.rd) (hB : 40 ≤ B) {P : Nat → Prop} (hP : ∀ z, und K i j B z → P z → ∀ k, k < ua K i j B z → P (uch K i j B z k)) : ∀ N y x, und K i j B y → zen (ua K i j B) y - y ≤ N → y ≤ x → x < zen (ua K i j B) y → P y → P x := by
  intro N
  induction N with
  | zero => intro y x ny hN h1 h2 _; omega
  | succ N ih =>
    intro y x ny hN h1 h2 hy
    by_cases e : x = y
    · subst e; exact hy
    · obtain ⟨z1, z2, z3, z4⟩ := u_S hK hi hj hB ny
      obtain ⟨k, k1, k2, k3⟩ := zcpt_in z1 (show y + 1 ≤ x by omega) h2
      obtain ⟨c1, c2, c3, c4, c5, c6⟩ := u_ch hK hi hj hB ny k1
      have e1 : uch K i j B y k = zcpt (ua K i j B) y k := rfl
      have e2 : uch K i j B y (k + 1) = zcpt (ua K i j B) y (k + 1) := rfl
      exact ih (uch K i j B y k) x c4 (by omega) (by omega) (by omega) (hP y ny hy k k1)
theorem u_all (hK : zKv K) (hi : i < K.rd) (hj : j < K.rd) (hB : 40 ≤ B) (hp : p < K.n (2 * i)) {P : Nat → Prop} (hP : ∀ z, und K i j B z → P z → ∀ k, k < ua K i j B z → P (uch K i j B z k)) (h1 : P p) (h2 : P B) {x : Nat} (hx : (p ≤ x ∧ x < zen (K.a (2 * i)) p) ∨ (B ≤ x ∧ x < B + K.n (2 * j))) : P x := by
  have n1 := (hK.2.2.2.1 (2 * i) (by omega)).2.2.1
  rcases hx with ⟨q1, q2⟩ | ⟨q1, q2⟩
  · have np : und K i j B p := Or.inl hp
    obtain ⟨z1, z2, z3, z4⟩ := u_S hK hi hj hB np
    exact u_down hK hi hj hB hP _ p x np (Nat.le_refl _) q1 (by rw [(z3 (by omega)).1]; exact q2) h1
  · have nB : und K i j B B := Or.inr ⟨Nat.le_refl _, by omega⟩
    obtain ⟨z1, z2, z3, z4⟩ := u_S hK hi hj hB nB
    have e := zen_eq (zKv_e hK (s := 2 * j) (by omega)).1
    exact u_down hK hi hj hB hP _ B x nB (Nat.le_refl _) q1 (by rw [(z4 (Nat.le_refl _)).1, Nat.sub_self, e]; exact q2) h2
end FK
