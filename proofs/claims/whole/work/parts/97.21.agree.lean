/-! the terms of the classes and those of the bindings say the same -/
section AG
variable {K : tK} {i j p : Nat} {jn rt : Nat → Nat} {sy : Nat → Option Nat} {ρ : Nat → Nat} {ex : Nat → xF} {us : Nat → Nat} {bd : Nat → Option Nat}
theorem uTc_m (hK : zKv K) (hi : i < K.rd) (hj : j < K.rd) (hp : p < K.n (2 * i)) (h : uMt K i j p jn rt sy ρ) : ∀ f f' x, uIn K i j p 40 x → ρ (rt x) < f → ρ (rt x) < f' → uTc K i j rt sy f x = uTc K i j rt sy f' x
  | 0, f', x, _, h1, h2 => by omega
  | f + 1, 0, x, _, h1, h2 => by omega
  | f + 1, f' + 1, x, ix, h1, h2 => by
    obtain ⟨⟨D, S, _, _, hU⟩, _, _, hr⟩ := h
    simp only [uTc]
    cases hs : sy (rt x) with
    | none => rfl
    | some s =>
      dsimp only
      congr 1
      have is := hU.2.2.2.2.1 x s ix hs
      refine xfl_eq _ (fun k hk => ?_)
      have := hr x ix s hs k hk
      exact uTc_m hK hi hj hp ⟨⟨D, S, by assumption, by assumption, hU⟩, by assumption, by assumption, hr⟩ f f' _ ((u_In hK hi hj (Nat.le_refl 40) hp is).2 k hk) (by omega) (by omega)
/-- the term of a node -/
noncomputable def uTn (K : tK) (i j : Nat) (rt : Nat → Nat) (sy : Nat → Option Nat) (ρ : Nat → Nat) (x : Nat) : xF := uTc K i j rt sy (ρ (rt x) + 1) x
theorem uTn_s (hK : zKv K) (hi : i < K.rd) (hj : j < K.rd) (hp : p < K.n (2 * i)) (h : uMt K i j p jn rt sy ρ) {x s : Nat} (ix : uIn K i j p 40 x) (hs : sy (rt x) = some s) : uTn K i j rt sy ρ x = .branch (uw K i j 40 s) (xfl (fun k => uTn K i j rt sy ρ (uch K i j 40 s k)) (ua K i j 40 s)) (.leaf ()) := by
  unfold uTn
  rw [uTc]
  simp only [hs]
  congr 1
  have is := (h.1.choose_spec.choose_spec.2.2).2.2.2.2.1 x s ix hs
  refine xfl_eq _ (fun k hk => ?_)
  have := h.2.2.2 x ix s hs k hk
  exact uTc_m hK hi hj hp h _ _ _ ((u_In hK hi hj (Nat.le_refl 40) hp is).2 k hk) (by omega) (by omega)
theorem uTn_v {x : Nat} (hs : sy (rt x) = none) : uTn K i j rt sy ρ x = .branch (100 + rt x) (.leaf ()) (.leaf ()) := by
  unfold uTn
  rw [uTc]
  simp only [hs]
def uRl (K : tK) (i j p : Nat) (rt : Nat → Nat) (sy : Nat → Option Nat) (ex : Nat → xF) (l c : Nat) : Prop := ∃ y, uIn K i j p 40 y ∧ sy (rt y) = none ∧ l = 100 + rt y ∧ ex (umv 40 80 y) = .branch c (.leaf ()) (.leaf ())
/-- what is of one class is the same; a class without a symbol is a variable; one variable is one class -/
theorem u_agr (hK : zKv K) (hi : i < K.rd) (hj : j < K.rd) (hp : p < K.n (2 * i)) (h : uMt K i j p jn rt sy ρ) (hM : uMJ K i j p ex us bd []) :
    (∀ x y, uIn K i j p 40 x → uIn K i j p 40 y → rt x = rt y → ex (umv 40 80 x) = ex (umv 40 80 y)) ∧
    (∀ x, uIn K i j p 40 x → sy (rt x) = none → ∃ c, 100 ≤ c ∧ ex (umv 40 80 x) = .branch c (.leaf ()) (.leaf ())) ∧
    (∀ x y c, uIn K i j p 40 x → uIn K i j p 40 y → 100 ≤ c → ex (umv 40 80 x) = .branch c (.leaf ()) (.leaf ()) → ex (umv 40 80 y) = .branch c (.leaf ()) (.leaf ()) → rt x = rt y) := by
  obtain ⟨⟨D, S, _, _, hU⟩, g1, g2, hr⟩ := h
  have n1 := (hK.2.2.2.1 (2 * i) (by omega)).2.2.1
  have hnd40 : ∀ x, uIn K i j p 40 x → und K i j 40 x := fun x hx => (u_In hK hi hj (Nat.le_refl 40) hp hx).1
  have hnd80 : ∀ x, uIn K i j p 80 x → und K i j 80 x := fun x hx => (u_In hK hi hj (show 40 ≤ 80 by omega) hp hx).1
  have hwf := u_wf hK hi hj (show 40 ≤ 80 by omega) hp
  obtain ⟨n2, n2'⟩ := (⟨(hK.2.2.2.1 (2 * j) (by omega)).2.2.1, by have := zS_le (zKv_e hK (s := 2 * j) (by omega)).1; omega⟩ : K.n (2 * j) ≤ 40 ∧ 0 < K.n (2 * j))
  have iP : uIn K i j p 80 p := Or.inl ⟨Nat.le_refl _, by have := zS_le (zKv_c hK (s := 2 * i) (by omega) hp).1; omega⟩
  have iB : uIn K i j p 80 80 := Or.inr (Or.inl ⟨Nat.le_refl _, by omega⟩)
  obtain ⟨_, m1, m2⟩ := uMj_end hwf hM iP iB
  obtain ⟨v1, v2⟩ := umv_ok hK hi hj hp (B := 40) (B' := 80) (Nat.le_refl 40) (show 40 ≤ 80 by omega)
  obtain ⟨w1, w2⟩ := umv_ok hK hi hj hp (B := 80) (B' := 40) (show 40 ≤ 80 by omega) (Nat.le_refl 40)
  have vw : ∀ x, umv 80 40 (umv 40 80 x) = x := by
    intro x; unfold umv
    by_cases e : x < 40
    · rw [if_pos e, if_pos (by omega)]
    · rw [if_neg e, if_neg (by omega)]; omega
  -- the bindings' relation, for the classes
  obtain ⟨a1, a2⟩ := upull (p := p) (q := 40) (ψ := umv 40 80) v1 (fun x hx k hk => v2 x hx k (by rw [← uar]; exact hk)) (if_pos (by omega)) rfl m1 m2
  -- the classes' relation, for the bindings
  obtain ⟨b1, b2⟩ := upull (p := p) (q := 80) (ψ := umv 80 40) w1 (fun x hx k hk => w2 x hx k (by rw [← uar]; exact hk)) (if_pos (by omega)) rfl g1 g2
  have least := (uUF_end hU hnd40).2 _ a1 a2
  have hE := (hM.2.2.2.2.1 _ b1 b2).1
  have real : ∀ x, uIn K i j p 40 x → ∃ y, url (ucd K i j 80) bd (umv 40 80 x) y ∧ uIn K i j p 80 y ∧ ex (umv 40 80 x) = ex y ∧ rt x = rt (umv 80 40 y) := by
    intro x hx
    have ix := (v1 x hx).1
    obtain ⟨y, hy⟩ := hM.1.2.2 _ ix
    obtain ⟨iy, ey⟩ := url_ex hM.1.1 hy ix
    have e0 : rt (umv 80 40 (umv 40 80 x)) = rt (umv 80 40 y) := url_E (E := fun x y => rt (umv 80 40 x) = rt (umv 80 40 y)) b1 hM.1.1 hE hy ix
    rw [vw] at e0
    exact ⟨y, hy, iy, ey, e0⟩
  refine ⟨fun x y ix iy e => least x y ix iy e, fun x ix hs => ?_, fun x y c ix iy hc e1 e2 => ?_⟩
  · obtain ⟨y, hy, iy, ey, er⟩ := real x ix
    have iy' := w1 y iy
    rcases url_end hy with q | q
    · exfalso
      obtain ⟨s, s1, s2⟩ := hU.2.2.2.1 (umv 80 40 y) (hnd40 _ iy'.1) (by rw [← iy'.2]; exact q)
      rw [← er, hs] at s1
      cases s1
    · by_cases hc : ucd K i j 80 y < 100
      · exfalso
        obtain ⟨s, s1, s2⟩ := hU.2.2.2.1 (umv 80 40 y) (hnd40 _ iy'.1) (by rw [← iy'.2]; exact hc)
        rw [← er, hs] at s1
        cases s1
      · exact ⟨ucd K i j 80 y, by omega, by rw [ey]; exact ((hM.1.1 y iy).2 (by omega)).2 q⟩
  · have key : ∀ x, uIn K i j p 40 x → ex (umv 40 80 x) = .branch c (.leaf ()) (.leaf ()) → ∃ y, uIn K i j p 40 y ∧ rt x = rt y ∧ ucd K i j 40 y = c := by
      intro x ix e
      obtain ⟨y, hy, iy, ey, er⟩ := real x ix
      have iy' := w1 y iy
      refine ⟨umv 80 40 y, iy'.1, er, ?_⟩
      rw [← iy'.2]
      by_cases hcy : ucd K i j 80 y < 100
      · exfalso
        rw [ey, (hM.1.1 y iy).1 hcy] at e
        injection e with e1
        omega
      · have q : bd (ucd K i j 80 y) = none := by
          rcases url_end hy with q | q
          · exact absurd q hcy
          · exact q
        rw [ey, ((hM.1.1 y iy).2 (by omega)).2 q] at e
        injection e
    obtain ⟨x', ix', ex1, ex2⟩ := key x ix e1
    obtain ⟨y', iy', ey1, ey2⟩ := key y iy e2
    rw [ex1, ey1]
    exact hU.2.2.2.2.2.1 x' y' (hnd40 _ ix') (hnd40 _ iy') (by omega) (by omega)
theorem uRl_b (hK : zKv K) (hi : i < K.rd) (hj : j < K.rd) (hp : p < K.n (2 * i)) (h : uMt K i j p jn rt sy ρ) (hM : uMJ K i j p ex us bd []) : ∀ a b a' b', uRl K i j p rt sy ex a b → uRl K i j p rt sy ex a' b' → (a = a' ↔ b = b') := by
  obtain ⟨f1, f2, f3⟩ := u_agr hK hi hj hp h hM
  rintro a b a' b' ⟨y, y1, y2, y3, y4⟩ ⟨z, z1, z2, z3, z4⟩
  constructor
  · intro e
    have := f1 y z y1 z1 (by omega)
    rw [y4, z4] at this
    injection this
  · intro e
    subst e
    obtain ⟨c, c1, c2⟩ := f2 y y1 y2
    rw [y4] at c2
    injection c2 with c3
    have := f3 y z b y1 z1 (by omega) y4 z4
    omega
/-- the two terms of a node -/
theorem u_both (hK : zKv K) (hi : i < K.rd) (hj : j < K.rd) (hp : p < K.n (2 * i)) (h : uMt K i j p jn rt sy ρ) (hM : uMJ K i j p ex us bd []) : ∀ N x, uIn K i j p 40 x → ρ (rt x) ≤ N → xfr (uRl K i j p rt sy ex) (uTn K i j rt sy ρ x) (ex (umv 40 80 x)) := by
  obtain ⟨f1, f2, f3⟩ := u_agr hK hi hj hp h hM
  obtain ⟨v1, v2⟩ := umv_ok hK hi hj hp (B := 40) (B' := 80) (Nat.le_refl 40) (show 40 ≤ 80 by omega)
  have hnd40 : ∀ x, uIn K i j p 40 x → und K i j 40 x := fun x hx => (u_In hK hi hj (Nat.le_refl 40) hp hx).1
  have hU := h.1.choose_spec.choose_spec.2.2
  intro N
  induction N using Nat.strongRecOn with
  | _ N ih =>
    intro x ix hN
    cases hs : sy (rt x) with
    | none =>
      obtain ⟨c, c1, c2⟩ := f2 x ix hs
      rw [uTn_v hs, c2]
      exact ⟨Or.inr ⟨by omega, c1, x, ix, hs, rfl, c2⟩, trivial, trivial⟩
    | some s =>
      have is := hU.2.2.2.2.1 x s ix hs
      obtain ⟨x1, x2, x3, x4, x5⟩ := hU.1 x (hnd40 x ix)
      obtain ⟨t1, t2, t3⟩ := hU.2.2.1 _ s x2 x3 hs
      rw [uTn_s hK hi hj hp h ix hs, f1 x s ix is t3.symm]
      obtain ⟨w1, w2⟩ := v1 s is
      have hsym : ucd K i j 80 (umv 40 80 s) < 100 := by rw [← w2]; exact t2
      rw [(hM.1.1 _ w1).1 hsym, ← w2]
      have ec := (ucd_s (K := K) (i := i) (j := j) (B := 40) (x := s)).2 t2
      have ew := (ucd_s (K := K) (i := i) (j := j) (B := 40) (x := s)).1.mp t2
      refine ⟨Or.inl ⟨ew, ec.symm⟩, ?_, trivial⟩
      have ea : zar K.sa (ucd K i j 40 s) = ua K i j 40 s := uar s
      rw [ea]
      refine xfr_fl _ (fun k hk => ?_)
      have hr := h.2.2.2 x ix s hs k hk
      rw [← v2 s is k hk]
      exact ih (ρ (rt (uch K i j 40 s k))) (by omega) _ ((u_In hK hi hj (Nat.le_refl 40) hp is).2 k hk) (Nat.le_refl _)
end AG
