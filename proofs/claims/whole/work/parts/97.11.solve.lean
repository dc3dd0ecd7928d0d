/-! pairs are solved one after the other, pure -/
def uMj (In : Nat → Prop) (cd : Nat → Nat) (ch : Nat → Nat → Nat) (ar : Nat → Nat) (p q : Nat) (ex : Nat → xF) (us : Nat → Nat) (bd : Nat → Option Nat) (W : List (Nat × Nat)) : Prop :=
  uin In cd ch ar ex bd ∧ uUs In cd ch ar us bd ∧ (∀ a, a ∈ W → In a.1 ∧ In a.2) ∧ uJ ex p q W ∧
  (∀ E, ucl In cd ch ar p q E → uok In cd ch ar E → (∀ x w, In x → 100 ≤ cd x → bd (cd x) = some w → E x w) ∧ ∀ a, a ∈ W → E a.1 a.2) ∧ uPb In cd ar ex W ∧
  (∀ c w, bd c = some w → In w) ∧ ∀ c, bd c ≠ none → ∃ x, In x ∧ cd x = c
section UJ
variable {In : Nat → Prop} {cd : Nat → Nat} {ch : Nat → Nat → Nat} {ar : Nat → Nat} {p q : Nat} {ex : Nat → xF} {us : Nat → Nat} {bd : Nat → Option Nat} {W : List (Nat × Nat)} {a b x y : Nat}
theorem uMj_drop (h : uMj In cd ch ar p q ex us bd ((a, b) :: W)) (e : ex a = ex b) : uMj In cd ch ar p q ex us bd W := by
  obtain ⟨h1, h2, h3, h4, h5, h6, h7, h8⟩ := h
  refine ⟨h1, h2, fun c hc => h3 c (List.mem_cons_of_mem _ hc), fun s hs => h4 s (fun c hc => ?_), fun E e1 e2 => ⟨(h5 E e1 e2).1, fun c hc => (h5 E e1 e2).2 c (List.mem_cons_of_mem _ hc)⟩, h6.2, h7, h8⟩
  rcases List.mem_cons.mp hc with q | q
  · subst q; show xsb s (ex a) = xsb s (ex b); rw [e]
  · exact hs c q
theorem uMj_E (h : uMj In cd ch ar p q ex us bd ((a, b) :: W)) (ha : url cd bd a x) (hb : url cd bd b y) {E : Nat → Nat → Prop} (e1 : ucl In cd ch ar p q E) (e2 : uok In cd ch ar E) : E x y := by
  obtain ⟨h1, h2, h3, h4, h5, h6, h7, h8⟩ := h
  obtain ⟨i1, i2⟩ := h3 (a, b) (List.mem_cons_self ..)
  obtain ⟨g1, g2⟩ := h5 E e1 e2
  have k1 := url_E e1 h1.1 g1 ha i1
  have k2 := url_E e1 h1.1 g1 hb i2
  have k3 := g2 (a, b) (List.mem_cons_self ..)
  exact e1.tr _ _ _ (e1.2.1 _ _ k1) (e1.tr _ _ _ k3 k2)
theorem uMj_clash (h : uMj In cd ch ar p q ex us bd ((a, b) :: W)) (ha : url cd bd a x) (hb : url cd bd b y) (hx : cd x < 100) (hy : cd y < 100) (hne : cd x ≠ cd y) : ¬ ∃ E, ucl In cd ch ar p q E ∧ uok In cd ch ar E := by
  rintro ⟨E, e1, e2⟩
  have := uMj_E h ha hb e1 e2
  obtain ⟨i1, i2⟩ := h.2.2.1 (a, b) (List.mem_cons_self ..)
  exact hne (e2.1 x y (url_ex h.1.1 ha i1).1 (url_ex h.1.1 hb i2).1 hx hy this)
/-- a variable u is in what it should be the same as -/
theorem uMj_occ (hW : uwf In cd ch ar) (h : uMj In cd ch ar p q ex us bd ((a, b) :: W)) (ha : url cd bd a x) (hb : url cd bd b y) {u w : Nat} (huw : (u = x ∧ w = y) ∨ (u = y ∧ w = x)) (hu : 100 ≤ cd u) (hne : cd u ≠ cd w) (hm : cd u ∈ xp (ex w)) : ¬ ∃ E, ucl In cd ch ar p q E ∧ uok In cd ch ar E := by
  rintro ⟨E, e1, e2⟩
  have hE := uMj_E h ha hb e1 e2
  obtain ⟨h1, h2, h3, h4, h5, h6, h7, h8⟩ := h
  obtain ⟨i1, i2⟩ := h3 (a, b) (List.mem_cons_self ..)
  have ix := (url_ex h1.1 ha i1).1
  have iy := (url_ex h1.1 hb i2).1
  have fx := url_end ha
  have fy := url_end hb
  have huE : E u w := by
    rcases huw with ⟨q1, q2⟩ | ⟨q1, q2⟩
    · rw [q1, q2]; exact hE
    · rw [q1, q2]; exact e1.2.1 _ _ hE
  have iu : In u := by rcases huw with ⟨q1, q2⟩ | ⟨q1, q2⟩ <;> rw [q1] <;> assumption
  have iw : In w := by rcases huw with ⟨q1, q2⟩ | ⟨q1, q2⟩ <;> rw [q2] <;> assumption
  have fu : bd (cd u) = none := by
    rcases huw with ⟨q1, q2⟩ | ⟨q1, q2⟩
    · rw [q1] at hu ⊢
      rcases fx with z | z
      · omega
      · exact z
    · rw [q1] at hu ⊢
      rcases fy with z | z
      · omega
      · exact z
  have fw : cd w < 100 ∨ bd (cd w) = none := by rcases huw with ⟨q1, q2⟩ | ⟨q1, q2⟩ <;> rw [q2] <;> assumption
  exact uno hW h1 e1 e2 (h5 E e1 e2).1 iu hu fu iw fw hne huE hm
theorem uMj_bind (hW : uwf In cd ch ar) (h : uMj In cd ch ar p q ex us bd ((a, b) :: W)) (ha : url cd bd a x) (hb : url cd bd b y) {u w : Nat} (huw : (u = x ∧ w = y) ∨ (u = y ∧ w = x)) (hu : 100 ≤ cd u) (hm : cd u ∉ xp (ex w)) : bd (cd u) = none ∧ uMj In cd ch ar p q (fun z => xsb (ubi (cd u) (ex w)) (ex z)) (fun z => us z + ucn (cd u) (ex z) * us w) (va_up bd (cd u) (some w)) W := by
  obtain ⟨h1, h2, h3, h4, h5, h6, h7, h8⟩ := h
  obtain ⟨i1, i2⟩ := h3 (a, b) (List.mem_cons_self ..)
  obtain ⟨ix, exa⟩ := url_ex h1.1 ha i1
  obtain ⟨iy, eyb⟩ := url_ex h1.1 hb i2
  have fx := url_end ha
  have fy := url_end hb
  have iu : In u := by rcases huw with ⟨q1, q2⟩ | ⟨q1, q2⟩ <;> rw [q1] <;> assumption
  have iw : In w := by rcases huw with ⟨q1, q2⟩ | ⟨q1, q2⟩ <;> rw [q2] <;> assumption
  have fu : bd (cd u) = none := by
    rcases huw with ⟨q1, q2⟩ | ⟨q1, q2⟩
    · rw [q1] at hu ⊢
      rcases fx with z | z
      · omega
      · exact z
    · rw [q1] at hu ⊢
      rcases fy with z | z
      · omega
      · exact z
  have fw : cd w < 100 ∨ bd (cd w) = none := by rcases huw with ⟨q1, q2⟩ | ⟨q1, q2⟩ <;> rw [q2] <;> assumption
  have eu : ex u = .branch (cd u) (.leaf ()) (.leaf ()) := ((h1.1 u iu).2 hu).2 fu
  have su : xsb (ubi (cd u) (ex w)) (ex u) = ex w := by
    rw [eu]
    simp only [xsb]
    rw [if_neg (by omega), xap_nil]
    simp [ubi]
  have sw : xsb (ubi (cd u) (ex w)) (ex w) = ex w := xsb_id hW.1 (ex w) (h1.2.1 w iw).1 (fun c hc _ => by
    have : c ≠ cd u := fun e => hm (e ▸ hc)
    simp [ubi, this])
  refine ⟨fu, ubind hW hu fu iw fw hm h1, uUs_bind hW h1 h2 hu fu iw hm, fun c hc => h3 c (List.mem_cons_of_mem _ hc), ?_, fun E e1 e2 => ⟨fun z w' iz hz hb' => ?_, fun c hc => (h5 E e1 e2).2 c (List.mem_cons_of_mem _ hc)⟩, uPb_bind hW h1 hu iw hm (fun c hc => (h3 c (List.mem_cons_of_mem _ hc)).1) h6.2, fun c w' hc => ?_, fun c hc => ?_⟩
  · refine uJ_bind (a := (a, b)) ?_ h4
    show xsb _ (ex a) = xsb _ (ex b)
    rw [exa, eyb]
    rcases huw with ⟨q1, q2⟩ | ⟨q1, q2⟩
    · rw [← q1, ← q2, su, sw]
    · rw [← q1, ← q2, su, sw]
  · by_cases e : cd z = cd u
    · rw [e] at hb'
      simp only [va_up, if_true] at hb'
      cases hb'
      have hE := uMj_E (p := p) (q := q) (E := E) ⟨h1, h2, h3, h4, h5, h6, h7, h8⟩ ha hb e1 e2
      have huE : E u w := by
        rcases huw with ⟨q1, q2⟩ | ⟨q1, q2⟩
        · rw [q1, q2]; exact hE
        · rw [q1, q2]; exact e1.2.1 _ _ hE
      exact e1.tr _ _ _ (e1.va z u iz iu hz e) huE
    · simp only [va_up, e, if_false] at hb'
      exact (h5 E e1 e2).1 z w' iz hz hb'
  · by_cases e : c = cd u
    · subst e
      simp only [va_up, if_true] at hc
      cases hc
      exact iw
    · simp only [va_up, e, if_false] at hc; exact h7 c w' hc
  · by_cases e : c = cd u
    · exact ⟨u, iu, e.symm⟩
    · simp only [va_up, e, if_false] at hc; exact h8 c hc
/-- a pair's parts -/
theorem uMj_dec (hW : uwf In cd ch ar) (h120 : ∀ x, In x → x < 120) (h : uMj In cd ch ar p q ex us bd ((a, b) :: W)) (ha : url cd bd a x) (hb : url cd bd b y) (hx : cd x < 100) (hxy : cd x = cd y) {P : List (Nat × Nat)} (hP : ∀ k, k < ar (cd x) → P.getD k (0, 0) = (ch x (ar (cd x) - 1 - k), ch y (ar (cd x) - 1 - k))) (hl : P.length = ar (cd x)) : uMj In cd ch ar p q ex us bd (P ++ W) := by
  have h' := h
  obtain ⟨h1, h2, h3, h4, h5, h6, h7, h8⟩ := h
  obtain ⟨i1, i2⟩ := h3 (a, b) (List.mem_cons_self ..)
  obtain ⟨ix, exa⟩ := url_ex h1.1 ha i1
  obtain ⟨iy, eyb⟩ := url_ex h1.1 hb i2
  have hmem : ∀ c, c ∈ P → ∃ k, k < ar (cd x) ∧ c = (ch x k, ch y k) := by
    intro c hc
    obtain ⟨k, hk, e⟩ := List.getElem_of_mem hc
    have : P.getD k (0, 0) = c := by rw [List.getD_eq_getElem?_getD, List.getElem?_eq_getElem hk, e]; rfl
    rw [hP k (by omega)] at this
    exact ⟨ar (cd x) - 1 - k, by omega, this.symm⟩
  have hmem' : ∀ k, k < ar (cd x) → (ch x k, ch y k) ∈ P := by
    intro k hk
    have := hP (ar (cd x) - 1 - k) (by omega)
    rw [show ar (cd x) - 1 - (ar (cd x) - 1 - k) = k by omega] at this
    rw [← this, List.getD_eq_getElem?_getD, List.getElem?_eq_getElem (by omega)]
    exact List.getElem_mem _
  refine ⟨h1, h2, fun c hc => ?_, fun s hs => h4 s (fun c hc => ?_), fun E e1 e2 => ⟨(h5 E e1 e2).1, fun c hc => ?_⟩, uPb_push h1 h120 h6 exa ix hx _ (Nat.le_refl _) P hl (fun k hk => ⟨ar (cd x) - 1 - k, by omega, by rw [hP k hk]⟩), h7, h8⟩
  · rcases List.mem_append.mp hc with z | z
    · obtain ⟨k, k1, k2⟩ := hmem c z
      rw [k2]
      exact ⟨hW.2 x ix k k1, hW.2 y iy k (by rw [← hxy]; exact k1)⟩
    · exact h3 c (List.mem_cons_of_mem _ z)
  · rcases List.mem_cons.mp hc with z | z
    · subst z
      show xsb s (ex a) = xsb s (ex b)
      rw [exa, eyb, (h1.1 x ix).1 hx, (h1.1 y iy).1 (by omega), ← hxy]
      simp only [xsb]
      rw [if_pos hx, if_pos hx, xsb_fl, xsb_fl]
      congr 1
      exact xfl_eq _ (fun k hk => hs (ch x k, ch y k) (List.mem_append_left _ (hmem' k hk)))
    · exact hs c (List.mem_append_right _ z)
  · rcases List.mem_append.mp hc with z | z
    · obtain ⟨k, k1, k2⟩ := hmem c z
      rw [k2]
      exact e1.2.2.2.2.2 x y k ix iy hx hxy (uMj_E h' ha hb e1 e2) k1
    · exact (h5 E e1 e2).2 c (List.mem_cons_of_mem _ z)
theorem uMj_end (hW : uwf In cd ch ar) (h : uMj In cd ch ar p q ex us bd []) (hp : In p) (hq : In q) : ex p = ex q ∧ ucl In cd ch ar p q (fun x y => ex x = ex y) ∧ uok In cd ch ar (fun x y => ex x = ex y) := by
  have e := uJ_end hW h.1 hp hq h.2.2.2.1
  exact ⟨e, uM hW h.1 e⟩
/-- sizes of what waits -/
def uWs (us : Nat → Nat) : List (Nat × Nat) → Nat
  | [] => 0
  | a :: as => us a.1 + uWs us as
theorem uWs_ap {us : Nat → Nat} : ∀ P W : List (Nat × Nat), uWs us (P ++ W) = uWs us P + uWs us W
  | [], W => by simp [uWs]
  | a :: P, W => by simp only [List.cons_append, uWs, uWs_ap P W]; omega
theorem url_us (hu : uUs In cd ch ar us bd) (hx : uex In cd ch ar ex bd) (h : url cd bd x y) : In x → us y ≤ us x := url_ind (C := fun x y => In x → us y ≤ us x) (fun _ _ _ => Nat.le_refl _) (fun x w y h1 h2 _ ih ix => by
  have e1 := ((hu x ix).2 h1).1 w h2
  have e2 := ih (((hx x ix).2 h1).1 w h2).1
  omega) h
theorem us_pos (hu : uUs In cd ch ar us bd) (hx : In x) : 0 < us x := by
  rcases Nat.lt_or_ge (cd x) 100 with q | q
  · rw [(hu x hx).1 q]; omega
  · cases e : bd (cd x) with
    | none => rw [((hu x hx).2 q).2 e]; omega
    | some w => rw [((hu x hx).2 q).1 w e]; omega
end UJ
