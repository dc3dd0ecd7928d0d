/-! what a run comes to, as a predicate; an equation an instruction -/
abbrev tQ : Type := Option Value → tE → tI → tJ → tR → Prop
def wp (X : tX) (m pc : Nat) (L : tL) (S : List Value) (E : tE) (I : tI) (J : tJ) (R : tR) (Q : tQ) : Prop := ∃ n r M', tm_run X n m pc L S (E, I, J, R) = some (r, M') ∧ Q r M'.1 M'.2.1 M'.2.2.1 M'.2.2.2
/-- a call -/
def cwp (X : tX) (y : Nat) (vs : List Value) (E : tE) (I : tI) (J : tJ) (R : tR) (Q : tQ) : Prop := wp X y 0 (tm_ent y vs) [] E I J R Q
/-- a call, and what goes on behind it -/
def cwk (X : tX) (y : Nat) (vs : List Value) (E : tE) (I : tI) (J : tJ) (R : tR) (m pc : Nat) (L : tL) (S : List Value) (Q : tQ) : Prop := cwp X y vs E I J R (fun r E I J R => wp X m pc L (r.toList ++ S) E I J R Q)
theorem tm_more {X : tX} : ∀ (n m pc : Nat) (L : tL) (S : List Value) (M : tM) (q : Option Value × tM), tm_run X n m pc L S M = some q → ∀ k, n ≤ k → tm_run X k m pc L S M = some q := by
  intro n
  induction n with
  | zero => intro m pc L S M q h; simp [tm_run] at h
  | succ n ih =>
    intro m pc L S M q h k hk
    match k, hk with
    | k + 1, hk =>
      have hk' : n ≤ k := by omega
      rw [tm_run] at h ⊢
      split at h
      · cases h
      · rename_i i len hd
        try rw [hd]
        try dsimp only
        split at h
        · rename_i r hr
          try rw [hr]
          exact h
        · rename_i hr
          try rw [hr]
          try dsimp only
          split at h
          · rename_i y vs rest hc
            try rw [hc]
            try dsimp only
            split at h
            · cases h
            · rename_i r M1 h1
              rw [ih _ _ _ _ _ _ h1 k hk']
              exact ih _ _ _ _ _ _ h k hk'
          · rename_i hc
            try rw [hc]
            try dsimp only
            split at h
            · cases h
            · rename_i hs
              try rw [hs]
              exact ih _ _ _ _ _ _ h k hk'
section WP
variable {X : tX} {m pc : Nat} {L : tL} {S : List Value} {E : tE} {I : tI} {J : tJ} {R : tR} {Q : tQ}
theorem wp_ret {i : Instr} {len : Nat} {r : Option Value} (hd : decode (mB m) pc = .ok (i, len)) (hr : tm_ret m i len S = some r) : wp X m pc L S E I J R Q = Q r E I J R := by
  apply propext
  constructor
  · rintro ⟨n, r1, M', h, hq⟩
    match n with
    | 0 => simp [tm_run] at h
    | n + 1 =>
      rw [tm_run, hd] at h
      simp only [hr] at h
      cases h
      exact hq
  · intro h
    exact ⟨1, r, (E, I, J, R), by rw [tm_run, hd]; simp only [hr], h⟩
theorem wp_stp {i : Instr} {len : Nat} (hd : decode (mB m) pc = .ok (i, len)) (hr : tm_ret m i len S = none) (hc : tm_call m i len S E = none) : wp X m pc L S E I J R Q = (match tm_stp X m i len pc L S (E, I, J, R) with
    | none => False
    | some (pc', L', S', M') => wp X m pc' L' S' M'.1 M'.2.1 M'.2.2.1 M'.2.2.2 Q) := by
  apply propext
  constructor
  · rintro ⟨n, r1, M', h, hq⟩
    match n with
    | 0 => simp [tm_run] at h
    | n + 1 =>
      rw [tm_run, hd] at h
      simp only [hr, hc] at h
      split at h
      · cases h
      · rename_i hs
        try rw [hs]
        exact ⟨n, r1, M', h, hq⟩
  · intro h
    split at h
    · exact h.elim
    · rename_i pc' L' S' M1 hs
      obtain ⟨n, r1, M', h1, hq⟩ := h
      exact ⟨n + 1, r1, M', by rw [tm_run, hd]; simp only [hr, hc, hs]; exact h1, hq⟩
theorem wp_call {i : Instr} {len y : Nat} {vs rest : List Value} (hd : decode (mB m) pc = .ok (i, len)) (hr : tm_ret m i len S = none) (hc : tm_call m i len S E = some (y, vs, rest)) : wp X m pc L S E I J R Q = cwk X y vs E I J R m (pc + 3) L rest Q := by
  apply propext
  unfold cwk cwp
  constructor
  · rintro ⟨n, r1, M', h, hq⟩
    match n with
    | 0 => simp [tm_run] at h
    | n + 1 =>
      rw [tm_run, hd] at h
      simp only [hr, hc] at h
      split at h
      · cases h
      · rename_i r2 M1 h1
        exact ⟨n, r2, M1, h1, n, r1, M', h, hq⟩
  · rintro ⟨n, r2, M1, h1, n2, r1, M', h, hq⟩
    refine ⟨max n n2 + 1, r1, M', ?_, hq⟩
    rw [tm_run, hd]
    simp only [hr, hc, tm_more _ _ _ _ _ _ _ h1 (max n n2) (Nat.le_max_left _ _)]
    exact tm_more _ _ _ _ _ _ _ h (max n n2) (Nat.le_max_right _ _)
end WP
/-- a local that holds an int, a long, a reference -/
def zli (L : tL) (k : Nat) (f : Int32 → Prop) : Prop := match tm_lg L k with
  | some (.int x) => f x
  | _ => False
def zll (L : tL) (k : Nat) (f : Int64 → Prop) : Prop := match tm_lg L k with
  | some (.long x) => f x
  | _ => False
def zla (L : tL) (k : Nat) (f : Value → Prop) : Prop := match tm_lg L k with
  | some (.ref x) => f (.ref x)
  | some .null => f .null
  | some (.retAddr x) => f (.retAddr x)
  | _ => False
/-- a local is written -/
def zst (L : tL) (k : Nat) (v : Value) (f : tL → Prop) : Prop := k < L.length ∧ f (tm_ls1 L k v)
def zst2 (L : tL) (k : Nat) (v : Value) (f : tL → Prop) : Prop := k + 1 < L.length ∧ f (tm_ls2 L k v)
theorem zlg_0 {a : Option Value} {L : tL} : tm_lg (a :: L) 0 = a := by cases a <;> rfl
theorem zlg_s {a : Option Value} {L : tL} {k : Nat} : tm_lg (a :: L) (k + 1) = tm_lg L k := by simp [tm_lg]
theorem zli_0 {x : Int32} {L : tL} {f : Int32 → Prop} : zli (some (.int x) :: L) 0 f = f x := rfl
theorem zli_s {a : Option Value} {L : tL} {k : Nat} {f : Int32 → Prop} : zli (a :: L) (k + 1) f = zli L k f := by unfold zli; rw [zlg_s]
theorem zll_0 {x : Int64} {L : tL} {f : Int64 → Prop} : zll (some (.long x) :: L) 0 f = f x := rfl
theorem zll_s {a : Option Value} {L : tL} {k : Nat} {f : Int64 → Prop} : zll (a :: L) (k + 1) f = zll L k f := by unfold zll; rw [zlg_s]
theorem zla_r {o : Nat} {L : tL} {f : Value → Prop} : zla (some (.ref o) :: L) 0 f = f (.ref o) := rfl
theorem zla_n {L : tL} {f : Value → Prop} : zla (some .null :: L) 0 f = f .null := rfl
theorem zla_x {o : Nat} {L : tL} {f : Value → Prop} : zla (some (.retAddr o) :: L) 0 f = f (.retAddr o) := rfl
theorem zla_v {r : Option Nat} {L : tL} {f : Value → Prop} : zla (some (tm_rv r) :: L) 0 f = f (tm_rv r) := by cases r <;> rfl
theorem zla_s {a : Option Value} {L : tL} {k : Nat} {f : Value → Prop} : zla (a :: L) (k + 1) f = zla L k f := by unfold zla; rw [zlg_s]
theorem zst_0 {a : Option Value} {L : tL} {v : Value} {f : tL → Prop} : zst (a :: L) 0 v f = f (some v :: L) := by simp [zst, tm_ls1]
theorem zst_1 {a b : Option Value} {L : tL} {v : Value} {f : tL → Prop} : zst (a :: b :: L) 1 v f = f (tm_kill a :: some v :: L) := by simp [zst, tm_ls1]
theorem zst_s {a : Option Value} {L : tL} {k : Nat} {v : Value} {f : tL → Prop} : zst (a :: L) (k + 2) v f = zst L (k + 1) v (fun l => f (a :: l)) := by
  simp only [zst, tm_ls1, List.length_cons]
  rw [show (k + 2 < L.length + 1) = (k + 1 < L.length) by apply propext; omega]
theorem zst2_0 {a b : Option Value} {L : tL} {v : Value} {f : tL → Prop} : zst2 (a :: b :: L) 0 v f = f (some v :: none :: L) := by simp [zst2, tm_ls2, tm_ls1]
theorem zst2_1 {a b c : Option Value} {L : tL} {v : Value} {f : tL → Prop} : zst2 (a :: b :: c :: L) 1 v f = f (tm_kill a :: some v :: none :: L) := by simp [zst2, tm_ls2, tm_ls1]
theorem zst2_s {a : Option Value} {L : tL} {k : Nat} {v : Value} {f : tL → Prop} : zst2 (a :: L) (k + 2) v f = zst2 L (k + 1) v (fun l => f (a :: l)) := by
  simp only [zst2, tm_ls2, tm_ls1, List.length_cons, List.set_cons_succ]
  rw [show (k + 2 + 1 < L.length + 1) = (k + 1 + 1 < L.length) by apply propext; omega]
theorem zki_i {x : Int32} : tm_kill (some (.int x)) = some (.int x) := rfl
theorem zki_r {x : Nat} : tm_kill (some (.ref x)) = some (.ref x) := rfl
theorem zki_n : tm_kill (some .null) = some .null := rfl
theorem zki_x {x : Nat} : tm_kill (some (.retAddr x)) = some (.retAddr x) := rfl
theorem zki_l {x : Int64} : tm_kill (some (.long x)) = none := rfl
theorem zki_0 : tm_kill none = none := rfl
theorem zki_v {r : Option Nat} : tm_kill (some (tm_rv r)) = some (tm_rv r) := by cases r <;> rfl
theorem zwt_0 : tm_wt [] = 0 := rfl
theorem zwt_i {x : Int32} {S : List Value} : tm_wt (.int x :: S) = 1 + tm_wt S := rfl
theorem zwt_l {x : Int64} {S : List Value} : tm_wt (.long x :: S) = 2 + tm_wt S := rfl
theorem zwt_r {x : Nat} {S : List Value} : tm_wt (.ref x :: S) = 1 + tm_wt S := rfl
theorem zwt_n {S : List Value} : tm_wt (.null :: S) = 1 + tm_wt S := rfl
theorem zwt_x {x : Nat} {S : List Value} : tm_wt (.retAddr x :: S) = 1 + tm_wt S := rfl
theorem zwt_v {r : Option Nat} {S : List Value} : tm_wt (tm_rv r :: S) = 1 + tm_wt S := by cases r <;> rfl
theorem zrv_0 : tm_rv none = .null := rfl
theorem zrv_s {a : Nat} : tm_rv (some a) = .ref a := rfl
theorem zca_r {x : Nat} : (Value.ref x).category = 1 := rfl
theorem zca_n : (Value.null).category = 1 := rfl
theorem zca_i {x : Int32} : (Value.int x).category = 1 := rfl
theorem zca_l {x : Int64} : (Value.long x).category = 2 := rfl
theorem zca_v {r : Option Nat} : (tm_rv r).category = 1 := by cases r <;> rfl
/-- the object o is of the class c, and has a slot k; an array of the kind c -/
def zF (E : tE) (o c k : Nat) : Prop := o < E.1 ∧ (E.2.2 o).1 = c ∧ k < (E.2.2 o).2
def zA (E : tE) (o c : Nat) (i : Int32) : Prop := o < E.1 ∧ (E.2.2 o).1 = c ∧ tm_out i (E.2.2 o).2 = false
