/-! bindings: how often a code is in a term, how large it is with its bindings -/
def ucn (c : Nat) (f : xF) : Nat := (xp f).count c
theorem ucn_b {c d : Nat} {k r : xF} : ucn c (.branch d k r) = (if d = c then 1 else 0) + ucn c k + ucn c r := by
  simp only [ucn, xp, List.count_cons, List.count_append, beq_iff_eq]
  omega
theorem ucn_ap {c : Nat} {f g : xF} : ucn c (xap f g) = ucn c f + ucn c g := by simp only [ucn, xp_ap, List.count_append]
theorem ucn_0 {c : Nat} {f : xF} : ucn c f = 0 ↔ c ∉ xp f := List.count_eq_zero
theorem ucn_fl {c : Nat} {g : Nat → xF} : ∀ n, ucn c (xfl g n) = usm (fun i => ucn c (g i)) n
  | 0 => rfl
  | n + 1 => by simp only [xfl, ucn_ap, usm, ucn_fl n]
theorem xz_fl {g : Nat → xF} : ∀ n, xz (xfl g n) = usm (fun i => xz (g i)) n
  | 0 => rfl
  | n + 1 => by simp only [xfl, xz_ap, usm, xz_fl n]
theorem ucn_sb {ar : Nat → Nat} (ha : ∀ c, 100 ≤ c → ar c = 0) {v : Nat} (hv : 100 ≤ v) {t : xF} {c : Nat} : ∀ f, xw ar f → ucn c (xsb (ubi v t) f) = (if c = v then 0 else ucn c f) + ucn v f * ucn c t
  | (.leaf ()), _ => by simp [xsb, ucn, xp]
  | .branch d k r, ⟨w1, w2, w3⟩ => by
    have hk := ucn_sb ha hv (t := t) (c := c) k w2
    have hr := ucn_sb ha hv (t := t) (c := c) r w3
    simp only [xsb]
    by_cases hd : d < 100
    · rw [if_pos hd, ucn_b, ucn_b, hk, hr, ucn_b, if_neg (show ¬ d = v by omega)]
      by_cases e : c = v
      · subst e
        rw [if_pos rfl, if_pos rfl, if_pos rfl, if_neg (show ¬ d = c by omega)]
        simp only [Nat.zero_add, Nat.add_mul]
      · rw [if_neg e, if_neg e, if_neg e]
        simp only [Nat.zero_add, Nat.add_mul]
        omega
    · rw [if_neg hd, ucn_ap, hr, ucn_b, ucn_b]
      have : k = (.leaf ()) := xl_0 (by rw [w1]; exact ha d (by omega))
      subst this
      have z0 : ∀ c, ucn c (.leaf ()) = 0 := fun c => rfl
      rw [z0, z0]
      by_cases ed : d = v
      · subst ed
        simp only [ubi, if_true, Nat.add_zero, Nat.add_mul, Nat.one_mul]
        by_cases e : c = d
        · subst e
          rw [if_pos rfl, if_pos rfl]; omega
        · rw [if_neg e, if_neg e, if_neg (fun q => e q.symm)]; omega
      · simp only [ubi, ed, if_false, Nat.add_zero, Nat.zero_add]
        rw [ucn_b, z0]
        by_cases e : c = v
        · subst e
          rw [if_pos rfl, if_pos rfl, if_neg ed]; omega
        · rw [if_neg e, if_neg e]; omega
theorem xz_sbb {ar : Nat → Nat} (ha : ∀ c, 100 ≤ c → ar c = 0) {v : Nat} (hv : 100 ≤ v) {t : xF} : ∀ f, xw ar f → xz (xsb (ubi v t) f) + ucn v f = xz f + ucn v f * xz t
  | (.leaf ()), _ => by simp [xsb, ucn, xp, xz]
  | .branch d k r, ⟨w1, w2, w3⟩ => by
    have hk := xz_sbb ha hv (t := t) k w2
    have hr := xz_sbb ha hv (t := t) r w3
    simp only [xsb]
    by_cases hd : d < 100
    · rw [if_pos hd, ucn_b, if_neg (show ¬ d = v by omega)]
      simp only [xz, Nat.zero_add, Nat.add_mul]
      omega
    · rw [if_neg hd, xz_ap, ucn_b]
      have : k = (.leaf ()) := xl_0 (by rw [w1]; exact ha d (by omega))
      subst this
      have z0 : ∀ c, ucn c (.leaf ()) = 0 := fun c => rfl
      rw [z0]
      by_cases ed : d = v
      · subst ed
        simp only [ubi, if_true, xz, Nat.add_zero, Nat.add_mul, Nat.one_mul]
        omega
      · simp only [ubi, ed, if_false, xz, Nat.add_zero, Nat.zero_add]
        omega
/-- the size of a node with its bindings -/
def uUs (In : Nat → Prop) (cd : Nat → Nat) (ch : Nat → Nat → Nat) (ar : Nat → Nat) (us : Nat → Nat) (bd : Nat → Option Nat) : Prop := ∀ x, In x → (cd x < 100 → us x = 1 + usm (fun i => us (ch x i)) (ar (cd x))) ∧ (100 ≤ cd x → (∀ w, bd (cd x) = some w → us x = 1 + us w) ∧ (bd (cd x) = none → us x = 1))
/-- n has all that is in a, and more -/
def udm (ex : Nat → xF) (n a : Nat) : Prop := (∀ c, ucn c (ex a) ≤ ucn c (ex n)) ∧ xz (ex a) < xz (ex n)
section UB
variable {In : Nat → Prop} {cd : Nat → Nat} {ch : Nat → Nat → Nat} {ar : Nat → Nat} {ex : Nat → xF} {us : Nat → Nat} {bd : Nat → Option Nat} {v w : Nat}
theorem usm_mul {f : Nat → Nat} {m : Nat} : ∀ {n}, usm (fun i => f i * m) n = usm f n * m
  | 0 => by simp [usm]
  | n + 1 => by simp only [usm]; rw [usm_mul (n := n), Nat.add_mul]
theorem uUs_bind (hW : uwf In cd ch ar) (h : uin In cd ch ar ex bd) (hu : uUs In cd ch ar us bd) (hv : 100 ≤ v) (hb : bd v = none) (hw : In w) (hvw : v ∉ xp (ex w)) : uUs In cd ch ar (fun x => us x + ucn v (ex x) * us w) (va_up bd v (some w)) := by
  obtain ⟨h1, h2, h3⟩ := h
  have hw0 : ucn v (ex w) = 0 := ucn_0.mpr hvw
  intro x hx
  obtain ⟨u1, u2⟩ := hu x hx
  refine ⟨fun hc => ?_, fun hc => ⟨fun w' hw' => ?_, fun hn => ?_⟩⟩
  · have e : ucn v (ex x) = usm (fun i => ucn v (ex (ch x i))) (ar (cd x)) := by
      rw [(h1 x hx).1 hc, ucn_b, if_neg (show ¬ cd x = v by omega), ucn_fl]
      have : ucn v (.leaf ()) = 0 := rfl
      omega
    show us x + ucn v (ex x) * us w = 1 + usm (fun i => us (ch x i) + ucn v (ex (ch x i)) * us w) (ar (cd x))
    rw [u1 hc, usm_add, usm_mul, e]
    omega
  · show us x + ucn v (ex x) * us w = 1 + (us w' + ucn v (ex w') * us w)
    by_cases e : cd x = v
    · rw [e] at hw'
      simp only [va_up, if_true] at hw'
      cases hw'
      have e2 := ((h1 x hx).2 hc).2 (by rw [e]; exact hb)
      rw [e2, (u2 hc).2 (by rw [e]; exact hb), hw0, ucn_b, e, if_pos rfl]
      have : ucn v (.leaf ()) = 0 := rfl
      rw [this]
      omega
    · simp only [va_up, e, if_false] at hw'
      rw [(u2 hc).1 w' hw', (((h1 x hx).2 hc).1 w' hw').2]
      omega
  · by_cases e : cd x = v
    · rw [e] at hn; simp [va_up] at hn
    · simp only [va_up, e, if_false] at hn
      show us x + ucn v (ex x) * us w = 1
      rw [(u2 hc).2 hn, ((h1 x hx).2 hc).2 hn, ucn_b, if_neg e]
      have : ucn v (.leaf ()) = 0 := rfl
      rw [this]
      simp
theorem udm_bind (hW : uwf In cd ch ar) (h : uin In cd ch ar ex bd) (hv : 100 ≤ v) (hw : In w) (hvw : v ∉ xp (ex w)) {n a : Nat} (hn : In n) (ha : In a) (hd : udm ex n a) : udm (fun x => xsb (ubi v (ex w)) (ex x)) n a := by
  obtain ⟨h1, h2, h3⟩ := h
  have hw0 : ucn v (ex w) = 0 := ucn_0.mpr hvw
  refine ⟨fun c => ?_, ?_⟩
  · show ucn c (xsb (ubi v (ex w)) (ex a)) ≤ ucn c (xsb (ubi v (ex w)) (ex n))
    rw [ucn_sb hW.1 hv _ (h2 a ha).1, ucn_sb hW.1 hv _ (h2 n hn).1]
    have d1 := hd.1 c
    have d2 := Nat.mul_le_mul_right (ucn c (ex w)) (hd.1 v)
    split <;> omega
  · show xz (xsb (ubi v (ex w)) (ex a)) < xz (xsb (ubi v (ex w)) (ex n))
    have e1 := xz_sbb hW.1 hv (t := ex w) _ (h2 a ha).1
    have e2 := xz_sbb hW.1 hv (t := ex w) _ (h2 n hn).1
    have hz : 1 ≤ xz (ex w) := by have := xl_le (ex w); have := (h2 w hw).2; omega
    obtain ⟨z, ez⟩ : ∃ z, xz (ex w) = z + 1 := ⟨xz (ex w) - 1, by omega⟩
    rw [ez] at e1 e2
    have d2 := Nat.mul_le_mul_right z (hd.1 v)
    have d3 := hd.2
    have m1 : ucn v (ex a) * (z + 1) = ucn v (ex a) * z + ucn v (ex a) := Nat.mul_succ _ _
    have m2 : ucn v (ex n) * (z + 1) = ucn v (ex n) * z + ucn v (ex n) := Nat.mul_succ _ _
    omega
theorem udm_ch (h : uin In cd ch ar ex bd) {x k : Nat} (hx : In x) (hc : cd x < 100) (hk : k < ar (cd x)) : udm ex x (ch x k) := by
  rw [udm, (h.1 x hx).1 hc]
  refine ⟨fun c => ?_, ?_⟩
  · rw [ucn_b, ucn_fl]
    have : ∀ n, k < n → ucn c (ex (ch x k)) ≤ usm (fun i => ucn c (ex (ch x i))) n := by
      intro n
      induction n with
      | zero => intro h; omega
      | succ n ih =>
        intro hn
        simp only [usm]
        by_cases e : k = n
        · subst e; omega
        · have := ih (by omega); omega
    have := this _ hk
    omega
  · have := xfl_z (g := fun i => ex (ch x i)) (ar (cd x)) k hk
    simp only [xz]
    omega
theorem udm_tr {a b c : Nat} (h : udm ex a b) (g : udm ex b c) : udm ex a c := ⟨fun d => Nat.le_trans (g.1 d) (h.1 d), Nat.lt_trans g.2 h.2⟩
/-- how deep the pairs that wait are -/
def uPb (In : Nat → Prop) (cd : Nat → Nat) (ar : Nat → Nat) (ex : Nat → xF) : List (Nat × Nat) → Prop
  | [] => True
  | a :: as => (∃ N : Nat → Bool, (∀ n, N n = true → In n ∧ cd n < 100 ∧ udm ex n a.1) ∧ as.length ≤ usm (fun n => if N n = true then ar (cd n) else 0) 120) ∧ uPb In cd ar ex as
theorem uPb_bind (hW : uwf In cd ch ar) (h : uin In cd ch ar ex bd) (hv : 100 ≤ v) (hw : In w) (hvw : v ∉ xp (ex w)) : ∀ {W : List (Nat × Nat)}, (∀ a, a ∈ W → In a.1) → uPb In cd ar ex W → uPb In cd ar (fun x => xsb (ubi v (ex w)) (ex x)) W
  | [], _, _ => trivial
  | a :: as, hi, ⟨⟨N, n1, n2⟩, hp⟩ => ⟨⟨N, fun n hn => ⟨(n1 n hn).1, (n1 n hn).2.1, udm_bind hW h hv hw hvw (n1 n hn).1 (hi a (List.mem_cons_self ..)) (n1 n hn).2.2⟩, n2⟩, uPb_bind hW h hv hw hvw (fun b hb => hi b (List.mem_cons_of_mem _ hb)) hp⟩
/-- parts are laid over what waits -/
theorem uPb_push (h : uin In cd ch ar ex bd) (h120 : ∀ x, In x → x < 120) {a b x : Nat} {W : List (Nat × Nat)} (hp : uPb In cd ar ex ((a, b) :: W)) (hax : ex a = ex x) (hx : In x) (hc : cd x < 100) : ∀ m, m ≤ ar (cd x) → ∀ P : List (Nat × Nat), P.length = m → (∀ k, k < m → ∃ i, i < ar (cd x) ∧ (P.getD k (0, 0)).1 = ch x i) → uPb In cd ar ex (P ++ W)
  | 0, _, P, hl, _ => by
    have : P = [] := List.length_eq_zero_iff.mp hl
    subst this
    exact hp.2
  | m + 1, hm, P, hl, hP => by
    cases P with
    | nil => simp only [List.length_nil] at hl; omega
    | cons c P =>
      obtain ⟨i, i1, i2⟩ := hP 0 (by omega)
      simp only [List.getD_cons_zero] at i2
      simp only [List.length_cons] at hl
      refine ⟨?_, uPb_push h h120 hp hax hx hc m (by omega) P (by omega) (fun k hk => ?_)⟩
      · obtain ⟨⟨N, n1, n2⟩, _⟩ := hp
        have nx : N x = false := by
          cases e : N x with
          | false => rfl
          | true =>
            have := (n1 x e).2.2.2
            dsimp only at this
            rw [hax] at this
            omega
        refine ⟨va_up N x true, fun n hn => ?_, ?_⟩
        · by_cases e : n = x
          · subst e
            rw [i2]
            exact ⟨hx, hc, udm_ch h hx hc i1⟩
          · simp only [va_up, e, if_false] at hn
            obtain ⟨m1, m2, m3⟩ := n1 n hn
            refine ⟨m1, m2, ?_⟩
            rw [i2]
            have m3' : udm ex n x := by
              obtain ⟨q1, q2⟩ := m3
              dsimp only at q1 q2
              rw [hax] at q1 q2
              exact ⟨q1, q2⟩
            exact udm_tr m3' (udm_ch h hx hc i1)
        · have e1 := usm_1 (f := fun n => if va_up N x true n = true then ar (cd n) else 0) (g := fun n => if N n = true then ar (cd n) else 0) (a := x) (n := 120) (h120 x hx) (fun z _ hz => by simp only [va_up, hz, if_false])
          have e3 : (if va_up N x true x = true then ar (cd x) else 0) = ar (cd x) := by simp [va_up]
          have e4 : (if N x = true then ar (cd x) else 0) = 0 := by simp [nx]
          rw [e3, e4] at e1
          have e5 : (P.append W).length = P.length + W.length := List.length_append
          rw [e5]
          omega
      · obtain ⟨j, j1, j2⟩ := hP (k + 1) (by omega)
        rw [List.getD_cons_succ] at j2
        exact ⟨j, j1, j2⟩
theorem uPb_len {T : Nat} (hT : ∀ N : Nat → Bool, (∀ n, N n = true → In n ∧ cd n < 100) → usm (fun n => if N n = true then ar (cd n) else 0) 120 ≤ T) {W : List (Nat × Nat)} (h : uPb In cd ar ex W) : W.length ≤ T + 1 := by
  cases W with
  | nil => simp
  | cons a as =>
    obtain ⟨⟨N, n1, n2⟩, _⟩ := h
    have := hT N (fun n hn => ⟨(n1 n hn).1, (n1 n hn).2.1⟩)
    simp only [List.length_cons]
    omega
end UB
