/-! terms made the same -/
def xfl (g : Nat → xF) : Nat → xF
  | 0 => (.leaf ())
  | n + 1 => xap (xfl g n) (g n)
theorem xfl_l {g : Nat → xF} : ∀ n, (∀ i, i < n → xl (g i) = 1) → xl (xfl g n) = n
  | 0, _ => rfl
  | n + 1, h => by simp only [xfl, xl_ap, xfl_l n (fun i hi => h i (by omega)), h n (by omega)]
theorem xfl_w {ar : Nat → Nat} {g : Nat → xF} : ∀ n, (∀ i, i < n → xw ar (g i)) → xw ar (xfl g n)
  | 0, _ => trivial
  | n + 1, h => (xw_ap _ _).mpr ⟨xfl_w n (fun i hi => h i (by omega)), h n (by omega)⟩
theorem xfl_eq {g g' : Nat → xF} : ∀ n, (∀ i, i < n → g i = g' i) → xfl g n = xfl g' n
  | 0, _ => rfl
  | n + 1, h => by simp only [xfl]; rw [xfl_eq n (fun i hi => h i (by omega)), h n (by omega)]
theorem xfl_inj {g g' : Nat → xF} : ∀ n, (∀ i, i < n → xl (g i) = 1 ∧ xl (g' i) = 1) → xfl g n = xfl g' n → ∀ i, i < n → g i = g' i
  | 0, _, _, i, hi => by omega
  | n + 1, h, e, i, hi => by
    simp only [xfl] at e
    obtain ⟨e1, e2⟩ := xap_inj e (by rw [xfl_l n (fun i hi => (h i (by omega)).1), xfl_l n (fun i hi => (h i (by omega)).2)])
    by_cases hin : i = n
    · subst hin; exact e2
    · exact xfl_inj n (fun i hi => h i (by omega)) e1 i (by omega)
theorem xfl_z {g : Nat → xF} : ∀ n i, i < n → xz (g i) ≤ xz (xfl g n)
  | 0, i, hi => by omega
  | n + 1, i, hi => by
    simp only [xfl, xz_ap]
    by_cases hin : i = n
    · subst hin; omega
    · have := xfl_z (g := g) n i (by omega); omega
theorem xfl_mem {g : Nat → xF} {u : Nat} : ∀ n, u ∈ xp (xfl g n) ↔ ∃ i, i < n ∧ u ∈ xp (g i)
  | 0 => by
    simp only [xfl, xp]
    constructor
    · intro h; cases h
    · rintro ⟨i, hi, _⟩; omega
  | n + 1 => by
    simp only [xfl, xp_ap, List.mem_append, xfl_mem n]
    constructor
    · rintro (⟨i, hi, h⟩ | h)
      · exact ⟨i, by omega, h⟩
      · exact ⟨n, by omega, h⟩
    · rintro ⟨i, hi, h⟩
      by_cases hin : i = n
      · subst hin; exact Or.inr h
      · exact Or.inl ⟨i, by omega, h⟩
theorem xsb_ap {e : Nat → xF} : ∀ f g, xsb e (xap f g) = xap (xsb e f) (xsb e g)
  | (.leaf ()), g => rfl
  | .branch c k r, g => by
    simp only [xap, xsb, xsb_ap r g]
    split
    · rfl
    · rw [xap_as]
theorem xsb_fl {e : Nat → xF} {g : Nat → xF} : ∀ n, xsb e (xfl g n) = xfl (fun i => xsb e (g i)) n
  | 0 => rfl
  | n + 1 => by simp only [xfl, xsb_ap, xsb_fl n]
theorem xsb_co {e e' : Nat → xF} : ∀ f, xsb e (xsb e' f) = xsb (fun c => xsb e (e' c)) f
  | (.leaf ()) => rfl
  | .branch c k r => by
    simp only [xsb]
    by_cases hc : c < 100
    · simp only [hc, if_true, xsb, xsb_co k, xsb_co r]
    · simp only [hc, if_false, xsb_ap, xsb_co r]
theorem xsb_id {ar : Nat → Nat} (ha : ∀ c, 100 ≤ c → ar c = 0) {e : Nat → xF} : ∀ f, xw ar f → (∀ c, c ∈ xp f → 100 ≤ c → e c = .branch c (.leaf ()) (.leaf ())) → xsb e f = f
  | (.leaf ()), _, _ => rfl
  | .branch c k r, ⟨w1, w2, w3⟩, h => by
    have hk := xsb_id ha (e := e) k w2 (fun c hc => h c (by simp only [xp, List.mem_cons, List.mem_append]; exact Or.inr (Or.inl hc)))
    have hr := xsb_id ha (e := e) r w3 (fun c hc => h c (by simp only [xp, List.mem_cons, List.mem_append]; exact Or.inr (Or.inr hc)))
    simp only [xsb]
    by_cases hc : c < 100
    · rw [if_pos hc, hk, hr]
    · rw [if_neg hc, hr, h c (by simp [xp]) (by omega)]
      have : k = (.leaf ()) := xl_0 (by rw [w1]; exact ha c (by omega))
      subst this
      rfl
/-- relations that make p and q the same -/
def ucl (In : Nat → Prop) (cd : Nat → Nat) (ch : Nat → Nat → Nat) (ar : Nat → Nat) (p q : Nat) (E : Nat → Nat → Prop) : Prop := (∀ x, E x x) ∧ (∀ x y, E x y → E y x) ∧ (∀ x y z, E x y → E y z → E x z) ∧ E p q ∧ (∀ x y, In x → In y → 100 ≤ cd x → cd x = cd y → E x y) ∧ ∀ x y i, In x → In y → cd x < 100 → cd x = cd y → E x y → i < ar (cd x) → E (ch x i) (ch y i)
def uok (In : Nat → Prop) (cd : Nat → Nat) (ch : Nat → Nat → Nat) (ar : Nat → Nat) (E : Nat → Nat → Prop) : Prop := (∀ x y, In x → In y → cd x < 100 → cd y < 100 → E x y → cd x = cd y) ∧ ∃ ρ : Nat → Nat, (∀ x y, E x y → ρ x = ρ y) ∧ ∀ x i, In x → cd x < 100 → i < ar (cd x) → ρ (ch x i) < ρ x
def urn (cd : Nat → Nat) (bd : Nat → Option Nat) : Nat → Nat → Nat → Prop
  | 0, x, y => (cd x < 100 ∨ bd (cd x) = none) ∧ x = y
  | k + 1, x, y => 100 ≤ cd x ∧ ∃ w, bd (cd x) = some w ∧ urn cd bd k w y
def url (cd : Nat → Nat) (bd : Nat → Option Nat) (x y : Nat) : Prop := ∃ k, urn cd bd k x y
def uex (In : Nat → Prop) (cd : Nat → Nat) (ch : Nat → Nat → Nat) (ar : Nat → Nat) (ex : Nat → xF) (bd : Nat → Option Nat) : Prop := ∀ x, In x → (cd x < 100 → ex x = .branch (cd x) (xfl (fun i => ex (ch x i)) (ar (cd x))) (.leaf ())) ∧ (100 ≤ cd x → (∀ w, bd (cd x) = some w → In w ∧ ex x = ex w) ∧ (bd (cd x) = none → ex x = .branch (cd x) (.leaf ()) (.leaf ())))
def uin (In : Nat → Prop) (cd : Nat → Nat) (ch : Nat → Nat → Nat) (ar : Nat → Nat) (ex : Nat → xF) (bd : Nat → Option Nat) : Prop := uex In cd ch ar ex bd ∧ (∀ x, In x → xw ar (ex x) ∧ xl (ex x) = 1) ∧ ∀ x, In x → ∃ y, url cd bd x y
def uwf (In : Nat → Prop) (cd : Nat → Nat) (ch : Nat → Nat → Nat) (ar : Nat → Nat) : Prop := (∀ c, 100 ≤ c → ar c = 0) ∧ ∀ x, In x → ∀ i, i < ar (cd x) → In (ch x i)
def ubi (v : Nat) (t : xF) : Nat → xF := fun c => if c = v then t else .branch c (.leaf ()) (.leaf ())
section UN
variable {In : Nat → Prop} {cd : Nat → Nat} {ch : Nat → Nat → Nat} {ar : Nat → Nat} {ex : Nat → xF} {bd : Nat → Option Nat} {p q : Nat} {E : Nat → Nat → Prop}
theorem ucl.rf (h : ucl In cd ch ar p q E) (x : Nat) : E x x := h.1 x
theorem ucl.tr (h : ucl In cd ch ar p q E) (x y z : Nat) : E x y → E y z → E x z := h.2.2.1 x y z
theorem ucl.va (h : ucl In cd ch ar p q E) (x y : Nat) : In x → In y → 100 ≤ cd x → cd x = cd y → E x y := h.2.2.2.2.1 x y
theorem uok.rk (h : uok In cd ch ar E) : ∃ ρ : Nat → Nat, (∀ x y, E x y → ρ x = ρ y) ∧ ∀ x i, In x → cd x < 100 → i < ar (cd x) → ρ (ch x i) < ρ x := h.2
theorem url.st {x : Nat} (h : cd x < 100 ∨ bd (cd x) = none) : url cd bd x x := ⟨0, h, rfl⟩
theorem url.go {x w y : Nat} (h1 : 100 ≤ cd x) (h2 : bd (cd x) = some w) (h3 : url cd bd w y) : url cd bd x y := by
  obtain ⟨k, h3⟩ := h3
  exact ⟨k + 1, h1, w, h2, h3⟩
theorem url_ind {C : Nat → Nat → Prop} (h0 : ∀ x, (cd x < 100 ∨ bd (cd x) = none) → C x x) (h1 : ∀ x w y, 100 ≤ cd x → bd (cd x) = some w → url cd bd w y → C w y → C x y) {x y : Nat} (h : url cd bd x y) : C x y := by
  obtain ⟨k, h⟩ := h
  induction k generalizing x with
  | zero => obtain ⟨a, b⟩ := h; subst b; exact h0 x a
  | succ k ih =>
    obtain ⟨a, w, b, c⟩ := h
    exact h1 x w y a b ⟨k, c⟩ (ih c)
theorem url_ca {x y : Nat} (h : url cd bd x y) : ((cd x < 100 ∨ bd (cd x) = none) ∧ x = y) ∨ (100 ≤ cd x ∧ ∃ w, bd (cd x) = some w ∧ url cd bd w y) := by
  obtain ⟨k, h⟩ := h
  cases k with
  | zero => exact Or.inl h
  | succ k => obtain ⟨a, w, b, c⟩ := h; exact Or.inr ⟨a, w, b, k, c⟩
theorem url_end {x y : Nat} (h : url cd bd x y) : cd y < 100 ∨ bd (cd y) = none := url_ind (C := fun _ y => cd y < 100 ∨ bd (cd y) = none) (fun _ h => h) (fun _ _ _ _ _ _ ih => ih) h
theorem url_ex {x y : Nat} (hu : uex In cd ch ar ex bd) (h : url cd bd x y) : In x → In y ∧ ex x = ex y := url_ind (C := fun x y => In x → In y ∧ ex x = ex y) (fun _ _ hx => ⟨hx, rfl⟩) (fun x w y h1 h2 _ ih hx => by
  obtain ⟨a1, a2⟩ := ((hu x hx).2 h1).1 w h2
  obtain ⟨b1, b2⟩ := ih a1
  exact ⟨b1, a2.trans b2⟩) h
theorem url_E {x y : Nat} (hc : ucl In cd ch ar p q E) (hu : uex In cd ch ar ex bd) (hE : ∀ x w, In x → 100 ≤ cd x → bd (cd x) = some w → E x w) (h : url cd bd x y) : In x → E x y := url_ind (C := fun x y => In x → E x y) (fun x _ _ => hc.rf x) (fun x w y h1 h2 _ ih hx => hc.tr _ _ _ (hE x w hx h1 h2) (ih (((hu x hx).2 h1).1 w h2).1)) h
theorem url_uni {x y z : Nat} (h : url cd bd x y) (h' : url cd bd x z) : y = z := by
  refine url_ind (C := fun x y => ∀ z, url cd bd x z → y = z) (fun x hx z h' => ?_) (fun x w y h1 h2 _ ih z h' => ?_) h z h'
  · rcases url_ca h' with ⟨_, e⟩ | ⟨a, w, b, _⟩
    · exact e
    · rcases hx with q | q
      · omega
      · rw [q] at b; cases b
  · rcases url_ca h' with ⟨a, _⟩ | ⟨a, w', b, c⟩
    · rcases a with q | q
      · omega
      · rw [q] at h2; cases h2
    · rw [h2] at b
      cases b
      exact ih z c
theorem ubind {v w : Nat} (hW : uwf In cd ch ar) (hv : 100 ≤ v) (hb : bd v = none) (hw : In w) (hwe : cd w < 100 ∨ bd (cd w) = none) (hvw : v ∉ xp (ex w)) (h : uin In cd ch ar ex bd) : uin In cd ch ar (fun x => xsb (ubi v (ex w)) (ex x)) (va_up bd v (some w)) := by
  obtain ⟨h1, h2, h3⟩ := h
  have hwv : cd w ≠ v := by
    intro e
    rcases hwe with q | q
    · omega
    · have := ((h1 w hw).2 (by omega)).2 q
      rw [this, e] at hvw
      exact hvw (by simp [xp])
  have hid : xsb (ubi v (ex w)) (ex w) = ex w := xsb_id hW.1 (ex w) (h2 w hw).1 (fun c hc hc' => by
    have : c ≠ v := fun e => hvw (e ▸ hc)
    simp [ubi, this])
  refine ⟨fun x hx => ⟨fun hc => ?_, fun hc => ⟨fun w' hw' => ?_, fun hn => ?_⟩⟩, fun x hx => ?_, fun x hx => ?_⟩
  · show xsb (ubi v (ex w)) (ex x) = _
    rw [(h1 x hx).1 hc]
    simp only [xsb]
    rw [if_pos hc, xsb_fl]
  · by_cases e : cd x = v
    · rw [e] at hw'
      simp only [va_up, if_true] at hw'
      cases hw'
      refine ⟨hw, ?_⟩
      show xsb (ubi v (ex w)) (ex x) = xsb (ubi v (ex w)) (ex w)
      rw [hid, ((h1 x hx).2 hc).2 (by rw [e]; exact hb)]
      simp only [xsb]
      rw [if_neg (by omega), xap_nil, e]
      simp [ubi]
    · simp only [va_up, e, if_false] at hw'
      obtain ⟨a1, a2⟩ := ((h1 x hx).2 hc).1 w' hw'
      exact ⟨a1, congrArg _ a2⟩
  · by_cases e : cd x = v
    · rw [e] at hn; simp [va_up] at hn
    · simp only [va_up, e, if_false] at hn
      show xsb (ubi v (ex w)) (ex x) = _
      rw [((h1 x hx).2 hc).2 hn]
      simp only [xsb]
      rw [if_neg (by omega), xap_nil]
      simp [ubi, e]
  · have hl : ∀ c, 100 ≤ c → xl (ubi v (ex w) c) = 1 ∧ xw ar (ubi v (ex w) c) := fun c hc => by
      by_cases e : c = v
      · simp only [ubi, e, if_true]; exact ⟨(h2 w hw).2, (h2 w hw).1⟩
      · simp only [ubi, e, if_false]; exact ⟨rfl, (hW.1 c hc).symm, trivial, trivial⟩
    exact ⟨xsb_w _ (h2 x hx).1 (fun c _ hc => hl c hc), by rw [xsb_l _ (fun c _ hc => (hl c hc).1)]; exact (h2 x hx).2⟩
  · obtain ⟨y, hy⟩ := h3 x hx
    have key : ∀ x y, url cd bd x y → (cd y ≠ v → url cd (va_up bd v (some w)) x y) ∧ (cd y = v → url cd (va_up bd v (some w)) x w) := by
      intro x y h
      refine url_ind (C := fun x y => (cd y ≠ v → url cd (va_up bd v (some w)) x y) ∧ (cd y = v → url cd (va_up bd v (some w)) x w)) (fun x h => ?_) (fun x u y g1 g2 _ ih => ?_) h
      · refine ⟨fun e => url.st ?_, fun e => url.go (by omega) (by simp [va_up, e]) (url.st ?_)⟩
        · rcases h with q | q
          · exact Or.inl q
          · exact Or.inr (by simp only [va_up, e, if_false]; exact q)
        · rcases hwe with q | q
          · exact Or.inl q
          · exact Or.inr (by simp only [va_up, hwv, if_false]; exact q)
      · have hxv : cd x ≠ v := fun e => by rw [e, hb] at g2; cases g2
        have g2' : va_up bd v (some w) (cd x) = some u := by simp only [va_up, hxv, if_false]; exact g2
        exact ⟨fun e => url.go g1 g2' (ih.1 e), fun e => url.go g1 g2' (ih.2 e)⟩
    by_cases e : cd y = v
    · exact ⟨w, (key x y hy).2 e⟩
    · exact ⟨y, (key x y hy).1 e⟩
/-- solved pairs stay solved -/
def uJ (ex : Nat → xF) (p q : Nat) (pile : List (Nat × Nat)) : Prop := ∀ e, (∀ a, a ∈ pile → xsb e (ex a.1) = xsb e (ex a.2)) → xsb e (ex p) = xsb e (ex q)
theorem uJ_bind {v w : Nat} {pile : List (Nat × Nat)} {a : Nat × Nat} (hab : xsb (ubi v (ex w)) (ex a.1) = xsb (ubi v (ex w)) (ex a.2)) (h : uJ ex p q (a :: pile)) : uJ (fun x => xsb (ubi v (ex w)) (ex x)) p q pile := by
  intro e he
  have := h (fun c => xsb e (ubi v (ex w) c)) (fun b hb => by
    rw [← xsb_co, ← xsb_co]
    rcases List.mem_cons.mp hb with e1 | e1
    · subst e1; rw [hab]
    · exact he b e1)
  rw [← xsb_co, ← xsb_co] at this
  exact this
theorem uJ_end (hW : uwf In cd ch ar) (h : uin In cd ch ar ex bd) (hp : In p) (hq : In q) (hJ : uJ ex p q []) : ex p = ex q := by
  have := hJ (fun c => .branch c (.leaf ()) (.leaf ())) (fun b hb => by cases hb)
  rwa [xsb_id hW.1 (ex p) (h.2.1 p hp).1 (fun _ _ _ => rfl), xsb_id hW.1 (ex q) (h.2.1 q hq).1 (fun _ _ _ => rfl)] at this
/-- success: the terms are the same -/
theorem uM (hW : uwf In cd ch ar) (h : uin In cd ch ar ex bd) (hpq : ex p = ex q) : ucl In cd ch ar p q (fun x y => ex x = ex y) ∧ uok In cd ch ar (fun x y => ex x = ex y) := by
  obtain ⟨h1, h2, h3⟩ := h
  have hl : ∀ x, In x → ∀ i, i < ar (cd x) → xl (ex (ch x i)) = 1 := fun x hx i hi => (h2 _ (hW.2 x hx i hi)).2
  refine ⟨⟨fun _ => rfl, fun _ _ e => e.symm, fun _ _ _ e e' => e.trans e', hpq, fun x y hx hy hc e => ?_, fun x y i hx hy hc e hxy hi => ?_⟩, ⟨fun x y hx hy hcx hcy hxy => ?_, ⟨fun x => xz (ex x), fun x y e => congrArg xz e, fun x i hx hc hi => ?_⟩⟩⟩
  · cases hb : bd (cd x) with
    | none =>
      show ex x = ex y
      rw [((h1 x hx).2 hc).2 hb, ((h1 y hy).2 (by omega)).2 (by rw [← e]; exact hb), e]
    | some w => exact ((((h1 x hx).2 hc).1 w hb).2).trans ((((h1 y hy).2 (by omega)).1 w (by rw [← e]; exact hb)).2).symm
  · have a1 := (h1 x hx).1 hc
    have a2 := (h1 y hy).1 (by omega)
    have hxy' : ex x = ex y := hxy
    rw [a1, a2, ← e] at hxy'
    injection hxy' with _ e2 _
    exact xfl_inj _ (fun i hi => ⟨hl x hx i hi, hl y hy i (by rw [← e]; exact hi)⟩) e2 i hi
  · have a1 := (h1 x hx).1 hcx
    have a2 := (h1 y hy).1 hcy
    have hxy' : ex x = ex y := hxy
    rw [a1, a2] at hxy'
    injection hxy'
  · show xz (ex (ch x i)) < xz (ex x)
    rw [(h1 x hx).1 hc]
    have := xfl_z (g := fun i => ex (ch x i)) (ar (cd x)) i hi
    simp only [xz]
    omega
/-- what occurs in a term is below it -/
theorem uocc (hW : uwf In cd ch ar) (h : uin In cd ch ar ex bd) (hc : ucl In cd ch ar p q E) (hE : ∀ x w, In x → 100 ≤ cd x → bd (cd x) = some w → E x w) {ρ : Nat → Nat} (r1 : ∀ x y, E x y → ρ x = ρ y) (r2 : ∀ x i, In x → cd x < 100 → i < ar (cd x) → ρ (ch x i) < ρ x) : ∀ N x u, In x → xz (ex x) ≤ N → u ∈ xp (ex x) → 100 ≤ u → ∃ y, In y ∧ cd y = u ∧ ρ y ≤ ρ x ∧ (cd x < 100 → ρ y < ρ x) := by
  intro N
  induction N with
  | zero =>
    intro x u hx hz hu _
    have := xp_len (ex x)
    rw [show xz (ex x) = 0 by omega] at this
    rw [List.length_eq_zero_iff.mp this] at hu
    cases hu
  | succ N ih =>
    intro x u hx hz hu hu'
    obtain ⟨y, hy⟩ := h.2.2 x hx
    obtain ⟨a1, a2⟩ := url_ex h.1 hy hx
    have a3 := r1 _ _ (url_E hc h.1 hE hy hx)
    have hxy : cd x < 100 → x = y := by
      intro hc
      rcases url_ca hy with ⟨_, e⟩ | ⟨a, _⟩
      · exact e
      · omega
    rcases url_end hy with q | q
    · rw [a2] at hu hz
      rw [(h.1 y a1).1 q] at hu hz
      simp only [xp, List.append_nil, List.mem_cons] at hu
      simp only [xz] at hz
      rcases hu with e | e
      · omega
      · obtain ⟨i, hi, hm⟩ := (xfl_mem _).mp e
        have hz' := xfl_z (g := fun i => ex (ch y i)) (ar (cd y)) i hi
        obtain ⟨y', b1, b2, b3, b4⟩ := ih (ch y i) u (hW.2 y a1 i hi) (by omega) hm hu'
        have := r2 y i a1 q hi
        exact ⟨y', b1, b2, by omega, fun _ => by omega⟩
    · by_cases hcy : cd y < 100
      · rw [a2] at hu hz
        rw [(h.1 y a1).1 hcy] at hu hz
        simp only [xp, List.append_nil, List.mem_cons] at hu
        simp only [xz] at hz
        rcases hu with e | e
        · omega
        · obtain ⟨i, hi, hm⟩ := (xfl_mem _).mp e
          have hz' := xfl_z (g := fun i => ex (ch y i)) (ar (cd y)) i hi
          obtain ⟨y', b1, b2, b3, b4⟩ := ih (ch y i) u (hW.2 y a1 i hi) (by omega) hm hu'
          have := r2 y i a1 hcy hi
          exact ⟨y', b1, b2, by omega, fun _ => by omega⟩
      · rw [a2, ((h.1 y a1).2 (by omega)).2 q] at hu
        simp [xp] at hu
        exact ⟨y, a1, hu.symm, by omega, fun hcx => by have := hxy hcx; subst this; omega⟩
/-- two terms, one a variable in the other: not the same -/
theorem uno (hW : uwf In cd ch ar) (h : uin In cd ch ar ex bd) (hc : ucl In cd ch ar p q E) (ho : uok In cd ch ar E) (hE : ∀ x w, In x → 100 ≤ cd x → bd (cd x) = some w → E x w) {a w : Nat} (ha : In a) (hav : 100 ≤ cd a) (hab : bd (cd a) = none) (hw : In w) (hwe : cd w < 100 ∨ bd (cd w) = none) (hne : cd a ≠ cd w) (haw : E a w) : cd a ∉ xp (ex w) := by
  intro hm
  obtain ⟨ρ, r1, r2⟩ := ho.rk
  by_cases hcw : cd w < 100
  · obtain ⟨y, b1, b2, b3, b4⟩ := uocc hW h hc hE r1 r2 (xz (ex w)) w (cd a) hw (Nat.le_refl _) hm hav
    have e1 := r1 _ _ (hc.va a y ha b1 hav b2.symm)
    have e2 := r1 _ _ haw
    have := b4 hcw
    omega
  · rcases hwe with q | q
    · omega
    · rw [((h.1 w hw).2 (by omega)).2 q] at hm
      simp [xp] at hm
      exact hne hm
end UN
