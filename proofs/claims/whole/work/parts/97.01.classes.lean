/-! classes of nodes, pure: a root of each, a symbol of each that has one, what waits to be joined -/
def ueq (E : Nat → Nat → Prop) : Prop := (∀ x, E x x) ∧ (∀ x y, E x y → E y x) ∧ ∀ x y z, E x y → E y z → E x z
def usm (f : Nat → Nat) : Nat → Nat
  | 0 => 0
  | n + 1 => usm f n + f n
theorem usm_c {f g : Nat → Nat} : ∀ {n}, (∀ x, x < n → f x = g x) → usm f n = usm g n
  | 0, _ => rfl
  | n + 1, h => by simp only [usm]; rw [usm_c (n := n) (fun x hx => h x (by omega)), h n (by omega)]
theorem usm_1 {f g : Nat → Nat} {a : Nat} : ∀ {n}, a < n → (∀ x, x < n → x ≠ a → f x = g x) → usm f n + g a = usm g n + f a
  | 0, h, _ => by omega
  | n + 1, h, he => by
    simp only [usm]
    by_cases e : a = n
    · subst e
      rw [usm_c (n := a) (fun x hx => he x (by omega) (by omega))]
      omega
    · have h1 := usm_1 (n := n) (a := a) (f := f) (g := g) (by omega) (fun x hx => he x (by omega))
      have h2 := he n (by omega) (fun q => e q.symm)
      omega
theorem usm_add {f g : Nat → Nat} : ∀ {n}, usm (fun x => f x + g x) n = usm f n + usm g n
  | 0 => rfl
  | n + 1 => by simp only [usm]; rw [usm_add (n := n)]; omega
theorem usm_le {f g : Nat → Nat} : ∀ {n}, (∀ x, x < n → f x ≤ g x) → usm f n ≤ usm g n
  | 0, _ => Nat.le_refl _
  | n + 1, h => by simp only [usm]; have := usm_le (n := n) (fun x hx => h x (by omega)); have := h n (by omega); omega
theorem usm_app {f : Nat → Nat} {n : Nat} : ∀ {m}, usm f (n + m) = usm f n + usm (fun x => f (n + x)) m
  | 0 => rfl
  | m + 1 => by
    show usm f (n + m) + f (n + m) = usm f n + (usm (fun x => f (n + x)) m + f (n + m))
    rw [usm_app (m := m)]; omega
/-- k terms from p to e have as many nodes as they have parts, and k more -/
theorem usm_S {a : Nat → Nat} {k p e : Nat} (h : zS a k p e) : usm (fun x => a (p + x)) (e - p) + k = e - p := by
  obtain ⟨f, h⟩ := h
  induction f generalizing k p with
  | zero =>
    cases k with
    | zero => cases h; simp [usm]
    | succ k => cases h
  | succ f ih =>
    cases k with
    | zero => rw [zsc_0] at h; cases h; simp [usm]
    | succ k =>
      have h' : zsc a f (k + a p) (p + 1) = some e := h
      have h1 := ih h'
      have h2 := zS_le (a := a) ⟨f, h'⟩
      rw [show e - p = 1 + (e - (p + 1)) by omega, usm_app]
      have h3 : usm (fun x => a (p + (1 + x))) (e - (p + 1)) = usm (fun x => a (p + 1 + x)) (e - (p + 1)) := usm_c (fun x _ => by rw [show p + (1 + x) = p + 1 + x by omega])
      simp only [usm, Nat.add_zero, Nat.zero_add]
      rw [h3]
      omega
noncomputable def uwt (nd : Nat → Prop) (cd ar : Nat → Nat) (jn : Nat → Nat) (sy : Nat → Option Nat) (x : Nat) : Nat := @ite Nat (nd x ∧ jn x = x) (Classical.propDecidable _) (match sy x with | some s => ar (cd s) | none => 0) 0
def uUF (nd In : Nat → Prop) (cd ar : Nat → Nat) (ch : Nat → Nat → Nat) (p q : Nat) (jn rt : Nat → Nat) (sy : Nat → Option Nat) (D : Nat) (W : List (Nat × Nat)) (S : Nat) : Prop :=
  (∀ x, nd x → nd (jn x) ∧ nd (rt x) ∧ jn (rt x) = rt x ∧ rt (jn x) = rt x ∧ (jn x = x → rt x = x)) ∧
  (∃ d : Nat → Nat, ∀ x, nd x → d x ≤ D ∧ (jn x = x → d x = 0) ∧ (jn x ≠ x → d (jn x) < d x)) ∧
  (∀ r s, nd r → jn r = r → sy r = some s → nd s ∧ cd s < 100 ∧ rt s = r) ∧
  (∀ x, nd x → cd x < 100 → ∃ s, sy (rt x) = some s ∧ cd s = cd x) ∧
  (∀ x s, In x → sy (rt x) = some s → In s) ∧
  (∀ x y, nd x → nd y → 100 ≤ cd x → cd x = cd y → rt x = rt y) ∧
  (∀ a, a ∈ W → In a.1 ∧ In a.2) ∧
  (∀ E, ueq E → (∀ x y, nd x → nd y → rt x = rt y → E x y) → (∀ a, a ∈ W → E a.1 a.2) → E p q ∧ ∀ x s i, nd x → cd x < 100 → sy (rt x) = some s → i < ar (cd x) → E (ch x i) (ch s i)) ∧
  (∀ E, ucl In cd ch ar p q E → uok In cd ch ar E → (∀ x y, In x → In y → rt x = rt y → E x y) ∧ ∀ a, a ∈ W → E a.1 a.2) ∧
  W.length + usm (uwt nd cd ar jn sy) 80 = S
section UF
variable {nd In : Nat → Prop} {cd ar : Nat → Nat} {ch : Nat → Nat → Nat} {p q : Nat} {jn rt : Nat → Nat} {sy : Nat → Option Nat} {D S : Nat} {W P : List (Nat × Nat)} {x y a b : Nat}
theorem uUF_same (h : uUF nd In cd ar ch p q jn rt sy D ((x, y) :: W) (S + 1)) (hnd : ∀ x, In x → nd x) (e : rt x = rt y) : uUF nd In cd ar ch p q jn rt sy D W S := by
  obtain ⟨h1, h2, h3, h4, h5, h6, h7, h8, h9, h10⟩ := h
  have hx := h7 (x, y) (List.mem_cons_self ..)
  refine ⟨h1, h2, h3, h4, h5, h6, fun a ha => h7 a (List.mem_cons_of_mem _ ha), fun E e1 e2 e3 => h8 E e1 e2 (fun a ha => ?_), fun E e1 e2 => ?_, ?_⟩
  · rcases List.mem_cons.mp ha with q | q
    · subst q; exact e2 x y (hnd _ hx.1) (hnd _ hx.2) e
    · exact e3 a q
  · obtain ⟨g1, g2⟩ := h9 E e1 e2
    exact ⟨g1, fun a ha => g2 a (List.mem_cons_of_mem _ ha)⟩
  · simp only [List.length_cons] at h10
    omega
theorem uUF_join (h : uUF nd In cd ar ch p q jn rt sy D ((x, y) :: W) (S + 1)) (hnd : ∀ x, In x → nd x) (h80 : ∀ x, nd x → x < 80) (hab : (a = rt x ∧ b = rt y) ∨ (a = rt y ∧ b = rt x)) (hne : a ≠ b) (hs : ∀ sa, sy a = some sa → ∃ sb, sy b = some sb ∧ cd sb = cd sa)
    (p1 : ∀ c, c ∈ P → In c.1 ∧ In c.2) (p2 : ∀ E, ueq E → (∀ c, c ∈ P → E c.1 c.2) → ∀ sa sb, sy a = some sa → sy b = some sb → ∀ i, i < ar (cd sa) → E (ch sa i) (ch sb i)) (p3 : ∀ E, ucl In cd ch ar p q E → uok In cd ch ar E → (∀ sa sb, sy a = some sa → sy b = some sb → E sa sb) → ∀ c, c ∈ P → E c.1 c.2) (p4 : P.length = match sy a with | some s => ar (cd s) | none => 0) :
    uUF nd In cd ar ch p q (va_up jn a b) (fun z => if rt z = a then b else rt z) sy (D + 1) (P ++ W) S := by
  obtain ⟨h1, ⟨d, h2⟩, h3, h4, h5, h6, h7, h8, h9, h10⟩ := h
  have hx := h7 (x, y) (List.mem_cons_self ..)
  have ax : nd x := hnd _ hx.1
  have ay : nd y := hnd _ hx.2
  have na : nd a := by rcases hab with ⟨e1, e2⟩ | ⟨e1, e2⟩ <;> rw [e1] <;> first | exact (h1 x ax).2.1 | exact (h1 y ay).2.1
  have nb : nd b := by rcases hab with ⟨e1, e2⟩ | ⟨e1, e2⟩ <;> rw [e2] <;> first | exact (h1 y ay).2.1 | exact (h1 x ax).2.1
  have ja : jn a = a := by rcases hab with ⟨e1, e2⟩ | ⟨e1, e2⟩ <;> rw [e1] <;> first | exact (h1 x ax).2.2.1 | exact (h1 y ay).2.2.1
  have jb : jn b = b := by rcases hab with ⟨e1, e2⟩ | ⟨e1, e2⟩ <;> rw [e2] <;> first | exact (h1 y ay).2.2.1 | exact (h1 x ax).2.2.1
  have ra : rt a = a := (h1 a na).2.2.2.2 ja
  have rb : rt b = b := (h1 b nb).2.2.2.2 jb
  have hjn : ∀ z, va_up jn a b z = if z = a then b else jn z := fun z => rfl
  have hother : ∀ z, nd z → z ≠ a → ((va_up jn a b z = z) ↔ jn z = z) := fun z _ hz => by rw [hjn, if_neg hz]
  -- a relation that holds the new classes holds the old ones and the pair
  have hE : ∀ E : Nat → Nat → Prop, ueq E → (∀ u v, nd u → nd v → (if rt u = a then b else rt u) = (if rt v = a then b else rt v) → E u v) → (∀ u v, nd u → nd v → rt u = rt v → E u v) ∧ E x y := by
    intro E e1 e2
    refine ⟨fun u v nu nv huv => e2 u v nu nv (by rw [huv]), e2 x y ax ay ?_⟩
    rcases hab with ⟨q1, q2⟩ | ⟨q1, q2⟩
    · rw [if_pos q1.symm, if_neg (fun h => hne (by rw [q2, h]))]; exact q2
    · rw [if_pos q1.symm, if_neg (fun h => hne (by rw [q2, h]))]; exact q2.symm
  refine ⟨fun z nz => ?_, ⟨fun z => if rt z = a then d z + 1 else d z, fun z nz => ?_⟩, fun r s nr jr hs' => ?_, fun z nz hz => ?_, fun z s iz hz => ?_, fun u v nu nv hu huv => ?_, fun c hc => ?_, fun E e1 e2 e3 => ?_, fun E e1 e2 => ?_, ?_⟩
  · obtain ⟨z1, z2, z3, z4, z5⟩ := h1 z nz
    refine ⟨?_, ?_, ?_, ?_, fun hz => ?_⟩
    · rw [hjn]; split
      · exact nb
      · exact z1
    · dsimp only; split
      · exact nb
      · exact z2
    · dsimp only; split
      · rw [hjn, if_neg (fun h => hne h.symm)]; exact jb
      · rename_i hz; rw [hjn, if_neg hz]; exact z3
    · dsimp only
      rw [hjn]
      by_cases ez : z = a
      · rw [if_pos ez, ez, ra, if_pos rfl, rb, if_neg (fun h => hne h.symm)]
      · rw [if_neg ez, z4]
    · dsimp only
      by_cases ez : z = a
      · rw [hjn, if_pos ez] at hz; exact absurd (hz.trans ez).symm hne
      · rw [hjn, if_neg ez] at hz
        rw [z5 hz, if_neg ez]
  · obtain ⟨z1, z2, z3⟩ := h2 z nz
    obtain ⟨y1, y2, y3, y4, y5⟩ := h1 z nz
    refine ⟨by dsimp only; split <;> omega, fun hz => ?_, fun hz => ?_⟩
    · by_cases ez : z = a
      · rw [hjn, if_pos ez] at hz; exact absurd (hz.trans ez).symm hne
      · rw [hjn, if_neg ez] at hz
        dsimp only
        rw [y5 hz, if_neg ez]; exact z2 hz
    · dsimp only
      by_cases ez : z = a
      · rw [hjn, if_pos ez, rb, if_neg (fun h => hne h.symm), (h2 b nb).2.1 jb, ez, ra, if_pos rfl]; omega
      · rw [hjn, if_neg ez] at hz ⊢
        have := z3 hz
        rw [y4]
        split <;> omega
  · have er : r ≠ a := fun e => by rw [hjn, if_pos e] at jr; exact hne (by rw [jr, e])
    rw [hjn, if_neg er] at jr
    obtain ⟨s1, s2, s3⟩ := h3 r s nr jr hs'
    exact ⟨s1, s2, by dsimp only; rw [s3, if_neg er]⟩
  · obtain ⟨s, s1, s2⟩ := h4 z nz hz
    dsimp only
    by_cases ez : rt z = a
    · rw [if_pos ez]
      rw [ez] at s1
      obtain ⟨sb, t1, t2⟩ := hs s s1
      exact ⟨sb, t1, by rw [t2, s2]⟩
    · rw [if_neg ez]; exact ⟨s, s1, s2⟩
  · dsimp only at hz
    by_cases ez : rt z = a
    · rw [if_pos ez] at hz
      rcases hab with ⟨q1, q2⟩ | ⟨q1, q2⟩
      · exact h5 y s hx.2 (by rw [← q2]; exact hz)
      · exact h5 x s hx.1 (by rw [← q2]; exact hz)
    · rw [if_neg ez] at hz; exact h5 z s iz hz
  · dsimp only; rw [h6 u v nu nv hu huv]
  · rcases List.mem_append.mp hc with q | q
    · exact p1 c q
    · exact h7 c (List.mem_cons_of_mem _ q)
  · obtain ⟨g1, g2⟩ := hE E e1 e2
    obtain ⟨g3, g4⟩ := h8 E e1 g1 (fun c hc => by
      rcases List.mem_cons.mp hc with q | q
      · subst q; exact g2
      · exact e3 c (List.mem_append_right _ q))
    refine ⟨g3, fun z s i nz hz hsz hi => ?_⟩
    dsimp only at hsz
    by_cases ez : rt z = a
    · rw [if_pos ez] at hsz
      obtain ⟨sa, s1, s2⟩ := h4 z nz hz
      have k1 := g4 z sa i nz hz s1 hi
      rw [ez] at s1
      have k2 := p2 E e1 (fun c hc => e3 c (List.mem_append_left _ hc)) sa s s1 hsz i (by rw [s2]; exact hi)
      exact e1.2.2 _ _ _ k1 k2
    · rw [if_neg ez] at hsz; exact g4 z s i nz hz hsz hi
  · obtain ⟨g1, g2⟩ := h9 E e1 e2
    have gxy := g2 (x, y) (List.mem_cons_self ..)
    have eqv : ueq E := ⟨e1.1, e1.2.1, e1.2.2.1⟩
    have new : ∀ u v, In u → In v → rt u = a → rt v = b → E u v := by
      intro u v iu iv hu hv
      rcases hab with ⟨q1, q2⟩ | ⟨q1, q2⟩
      · exact eqv.2.2 _ _ _ (g1 u x iu hx.1 (by rw [hu, q1])) (eqv.2.2 _ _ _ gxy (g1 y v hx.2 iv (by rw [hv, q2])))
      · exact eqv.2.2 _ _ _ (g1 u y iu hx.2 (by rw [hu, q1])) (eqv.2.2 _ _ _ (eqv.2.1 _ _ gxy) (g1 x v hx.1 iv (by rw [hv, q2])))
    refine ⟨fun u v iu iv huv => ?_, fun c hc => ?_⟩
    · dsimp only at huv
      by_cases eu : rt u = a <;> by_cases ev : rt v = a
      · exact g1 u v iu iv (by rw [eu, ev])
      · rw [if_pos eu, if_neg ev] at huv; exact new u v iu iv eu huv.symm
      · rw [if_neg eu, if_pos ev] at huv; exact eqv.2.1 _ _ (new v u iv iu ev huv)
      · rw [if_neg eu, if_neg ev] at huv; exact g1 u v iu iv huv
    · rcases List.mem_append.mp hc with q | q
      · refine p3 E e1 e2 (fun sa sb hsa hsb => ?_) c q
        obtain ⟨s1, s2, s3⟩ := h3 a sa na ja hsa
        obtain ⟨t1, t2, t3⟩ := h3 b sb nb jb hsb
        have ia : In sa := by
          rcases hab with ⟨q1, q2⟩ | ⟨q1, q2⟩
          · exact h5 x sa hx.1 (by rw [← q1]; exact hsa)
          · exact h5 y sa hx.2 (by rw [← q1]; exact hsa)
        have ib : In sb := by
          rcases hab with ⟨q1, q2⟩ | ⟨q1, q2⟩
          · exact h5 y sb hx.2 (by rw [← q2]; exact hsb)
          · exact h5 x sb hx.1 (by rw [← q2]; exact hsb)
        exact new sa sb ia ib s3 t3
      · exact g2 c (List.mem_cons_of_mem _ q)
  · have u1 := usm_1 (f := uwt nd cd ar (va_up jn a b) sy) (g := uwt nd cd ar jn sy) (a := a) (n := 80) (h80 a na) (fun z _ hz => by
      unfold uwt
      rw [show va_up jn a b z = jn z by rw [hjn, if_neg hz]])
    have u2 : uwt nd cd ar (va_up jn a b) sy a = 0 := by
      unfold uwt
      rw [hjn, if_pos rfl]
      exact if_neg (fun h => hne h.2.symm)
    have u3 : uwt nd cd ar jn sy a = P.length := by
      unfold uwt
      rw [p4]
      exact if_pos ⟨na, ja⟩
    simp only [List.length_cons, List.length_append] at h10 ⊢
    omega
/-- all is joined: the classes make p and q the same -/
theorem uUF_end (h : uUF nd In cd ar ch p q jn rt sy D [] S) (hnd : ∀ x, In x → nd x) : ucl In cd ch ar p q (fun u v => rt u = rt v) ∧ ∀ E, ucl In cd ch ar p q E → uok In cd ch ar E → ∀ x y, In x → In y → rt x = rt y → E x y := by
  obtain ⟨h1, h2, h3, h4, h5, h6, h7, h8, h9, h10⟩ := h
  have hR : ueq (fun u v => rt u = rt v) := ⟨fun _ => rfl, fun _ _ e => e.symm, fun _ _ _ e f => e.trans f⟩
  obtain ⟨g1, g2⟩ := h8 _ hR (fun _ _ _ _ e => e) (fun a ha => by cases ha)
  refine ⟨⟨hR.1, hR.2.1, hR.2.2, g1, fun x y ix iy hx hxy => h6 x y (hnd x ix) (hnd y iy) hx hxy, fun x y i ix iy hx hxy e hi => ?_⟩, fun E e1 e2 => (h9 E e1 e2).1⟩
  obtain ⟨s, s1, s2⟩ := h4 x (hnd x ix) hx
  have k1 := g2 x s i (hnd x ix) hx s1 hi
  have e' : rt x = rt y := e
  rw [e'] at s1
  have k2 := g2 y s i (hnd y iy) (by omega) s1 (by rw [← hxy]; exact hi)
  exact k1.trans k2.symm
/-- two symbols in a class -/
theorem uUF_clash (h : uUF nd In cd ar ch p q jn rt sy D ((x, y) :: W) S) (hnd : ∀ x, In x → nd x) {sa sb : Nat} (ha : sy (rt x) = some sa) (hb : sy (rt y) = some sb) (hc : cd sa ≠ cd sb) : ¬ ∃ E, ucl In cd ch ar p q E ∧ uok In cd ch ar E := by
  rintro ⟨E, e1, e2⟩
  obtain ⟨h1, h2, h3, h4, h5, h6, h7, h8, h9, h10⟩ := h
  have hx := h7 (x, y) (List.mem_cons_self ..)
  obtain ⟨g1, g2⟩ := h9 E e1 e2
  have gxy := g2 (x, y) (List.mem_cons_self ..)
  obtain ⟨x1, x2, x3, x4, x5⟩ := h1 x (hnd _ hx.1)
  obtain ⟨y1, y2, y3, y4, y5⟩ := h1 y (hnd _ hx.2)
  obtain ⟨s1, s2, s3⟩ := h3 _ sa x2 x3 ha
  obtain ⟨t1, t2, t3⟩ := h3 _ sb y2 y3 hb
  have ia := h5 x sa hx.1 ha
  have ib := h5 y sb hx.2 hb
  have eqv : ueq E := ⟨e1.1, e1.2.1, e1.2.2.1⟩
  exact hc (e2.1 sa sb ia ib s2 t2 (eqv.2.2 _ _ _ (g1 sa x ia hx.1 s3) (eqv.2.2 _ _ _ gxy (g1 y sb hx.2 ib t3.symm))))
end UF
