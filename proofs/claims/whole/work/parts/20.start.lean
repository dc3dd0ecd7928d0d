/-! the two constructors, run by the kernel; a run without the script is the same over every script -/
def zn (v : Value) : Bool := match v with
  | .retAddr _ => false
  | _ => true
def znL (L : tL) : Prop := ∀ v, some v ∈ L → zn v = true
def znS (S : List Value) : Prop := ∀ v ∈ S, zn v = true
theorem znS_c {v : Value} {S : List Value} : znS (v :: S) ↔ zn v = true ∧ znS S := by simp [znS]
theorem znS_0 : znS [] := fun _ h => by cases h
theorem zn_rv {r : Option Nat} : zn (tm_rv r) = true := by cases r <;> rfl
theorem zn_pv {t : Nat} {x : Int32} {y : Int64} {r : Option Nat} : zn (tm_pv t x y r) = true := by
  unfold tm_pv
  split
  · rfl
  · split
    · rfl
    · exact zn_rv
theorem znL_g {L : tL} {k : Nat} {v : Value} (h : znL L) (e : tm_lg L k = some v) : zn v = true := by
  unfold tm_lg at e
  split at e
  · rename_i w hw
    cases e
    exact h v (List.mem_of_getElem? hw)
  · cases e
theorem znL_1 {v : Value} (hv : zn v = true) : ∀ {L : tL} {k : Nat}, znL L → znL (tm_ls1 L k v)
  | [], k, h => by cases k <;> exact h
  | a :: l, 0, h => by
    intro w hw
    rcases List.mem_cons.mp hw with e | e
    · cases e; exact hv
    · exact h w (List.mem_cons_of_mem _ e)
  | a :: l, 1, h => by
    intro w hw
    simp only [tm_ls1] at hw
    rcases List.mem_cons.mp hw with e | e
    · cases a with
      | none => cases e
      | some u =>
        simp only [tm_kill] at e
        split at e
        · cases e
        · cases e; exact h w List.mem_cons_self
    · split at e
      · cases e
      · rcases List.mem_cons.mp e with e | e
        · cases e; exact hv
        · exact h w (List.mem_cons_of_mem _ (List.mem_cons_of_mem _ e))
  | a :: l, k + 2, h => by
    intro w hw
    simp only [tm_ls1] at hw
    rcases List.mem_cons.mp hw with e | e
    · cases e; exact h w List.mem_cons_self
    · exact znL_1 hv (L := l) (k := k + 1) (fun u hu => h u (List.mem_cons_of_mem _ hu)) w e
theorem znL_2 {v : Value} (hv : zn v = true) {L : tL} {k : Nat} (h : znL L) : znL (tm_ls2 L k v) := by
  intro w hw
  unfold tm_ls2 at hw
  rcases List.mem_or_eq_of_mem_set hw with e | e
  · exact znL_1 hv h w e
  · cases e
theorem zn_jmp {pc pc1 : Nat} {off : Int} {L L1 : tL} {S S1 : List Value} {M M1 : tM} (h : tm_jmp pc off L S M = some (pc1, L1, S1, M1)) (hL : znL L) (hS : znS S) : znL L1 ∧ znS S1 := by
  obtain ⟨-, e1, e2, -⟩ := tm_jmp_ok h
  subst e1; subst e2
  exact ⟨hL, hS⟩
theorem zstp_ind {X X' : tX} {m len pc : Nat} {i : Instr} {L : tL} {S : List Value} {M : tM} (hS : znS S) : tm_stp X m i len pc L S M = tm_stp X' m i len pc L S M := by
  cases i <;> first | rfl | skip
  · simp only [tm_stp]
    match S, hS with
    | [], _ => rfl
    | .retAddr x :: S, hS => exact absurd (hS _ List.mem_cons_self) (by simp [zn])
    | .int x :: S, _ => rfl
    | .long x :: S, _ => rfl
    | .float x :: S, _ => rfl
    | .double x :: S, _ => rfl
    | .null :: S, _ => rfl
    | .ref x :: S, _ => rfl
  · simp only [tm_stp]
    match S, hS with
    | [], _ => rfl
    | [a], _ => cases a <;> rfl
    | .int i :: .retAddr x :: S, hS => exact absurd (hS (.retAddr x) (by simp)) (by simp [zn])
    | a :: .int x :: S, _ => cases a <;> rfl
    | a :: .long x :: S, _ => cases a <;> rfl
    | a :: .float x :: S, _ => cases a <;> rfl
    | a :: .double x :: S, _ => cases a <;> rfl
    | a :: .null :: S, _ => cases a <;> rfl
    | a :: .ref x :: S, _ => cases a <;> rfl
    | .retAddr x :: b :: S, hS => exact absurd (hS (.retAddr x) (by simp)) (by simp [zn])
    | .long i :: .retAddr x :: S, hS => rfl
    | .float i :: .retAddr x :: S, hS => rfl
    | .double i :: .retAddr x :: S, hS => rfl
    | .null :: .retAddr x :: S, hS => rfl
    | .ref i :: .retAddr x :: S, hS => rfl
theorem zstp_n {X : tX} {m len pc pc1 : Nat} {i : Instr} {L L1 : tL} {S S1 : List Value} {M M1 : tM} (hL : znL L) (hS : znS S) (h : tm_stp X m i len pc L S M = some (pc1, L1, S1, M1)) : znL L1 ∧ znS S1 := by
  cases i <;> simp only [tm_stp] at h <;> (repeat' (split at h)) <;> first
    | (cases h; done)
    | exact zn_jmp h hL hS
    | (cases h; exact ⟨znL_1 rfl hL, hS⟩)
    | exact zn_jmp h hL (by simp only [znS_c] at hS; first | exact hS | exact hS.2 | exact hS.2.2)
    | (cases h; rename_i hv; refine ⟨hL, znS_c.mpr ⟨znL_g hL hv, hS⟩⟩; done)
    | (cases h; simp only [znS_c] at hS ⊢; refine ⟨?_, ?_⟩ <;> first | exact hL | exact znL_1 rfl hL | exact znL_2 rfl hL | exact hS | exact hS.2 | exact hS.2.2 | exact hS.2.2.2 | exact hS.2.2.2.2.2 | exact ⟨rfl, hS⟩ | exact ⟨rfl, hS.2⟩ | exact ⟨rfl, hS.2.2⟩ | exact ⟨zn_pv, hS.2⟩ | exact ⟨zn_rv, hS.2.2⟩ | exact ⟨hS.1, hS.1, hS.2⟩ | exact ⟨hS.1, hS.2.1, hS.1, hS.2.2⟩ | exact ⟨hS.1, hS.2.1, hS.2.2.1, hS.1, hS.2.2.2⟩ | exact ⟨hS.1, hS.2.1, hS.1, hS.2.1, hS.2.2⟩)
theorem zn_ent {y : Nat} {vs : List Value} (h : znS vs) : znL (tm_ent y vs) := by
  intro v hv
  unfold tm_ent tm_sl at hv
  rcases List.mem_append.mp hv with e | e
  · obtain ⟨u, hu, e⟩ := List.mem_flatMap.mp e
    split at e
    · simp at e; subst e; exact h v hu
    · simp at e; subst e; exact h v hu
  · rw [List.mem_replicate] at e
    cases e.2
theorem zn_app {S T : List Value} (hS : znS S) (hT : znS T) : znS (S ++ T) := fun v hv => (List.mem_append.mp hv).elim (hS v) (hT v)
theorem zn_call {m len y : Nat} {i : Instr} {S vs rest : List Value} {E : tE} (hS : znS S) (h : tm_call m i len S E = some (y, vs, rest)) : znS vs ∧ znS rest := by
  have ht : ∀ n, znS (S.take n).reverse := fun n v hv => hS v (List.mem_of_mem_take (List.mem_reverse.mp hv))
  have hd : ∀ n, znS (S.drop n) := fun n v hv => hS v (List.mem_of_mem_drop hv)
  unfold tm_call at h
  (repeat' (split at h)) <;> first
    | (cases h; done)
    | (cases h; exact ⟨ht _, hd _⟩)
    | (cases h; rename_i hq _ ; exact ⟨znS_c.mpr ⟨rfl, ht _⟩, fun v hv => hd _ v (by rw [hq]; exact List.mem_cons_of_mem _ hv)⟩)
theorem zn_retv {m len : Nat} {i : Instr} {S : List Value} {r : Option Value} (h : tm_ret m i len S = some r) : znS r.toList := by
  unfold tm_ret at h
  (repeat' (split at h)) <;> first
    | (cases h; done)
    | (cases h; exact fun v hv => by simp at hv; subst hv; rfl)
    | (cases h; exact znS_0)
theorem zrun_ind {X X' : tX} : ∀ (n m pc : Nat) (L : tL) (S : List Value) (M : tM) (r : Option Value) (M' : tM), znL L → znS S → tm_run X n m pc L S M = some (r, M') → tm_run X' n m pc L S M = some (r, M') ∧ znS r.toList := by
  intro n
  induction n with
  | zero => intro m pc L S M r M' _ _ h; simp [tm_run] at h
  | succ n ih =>
    intro m pc L S M r M' hL hS h
    rw [tm_run] at h ⊢
    cases hd : decode (mB m) pc with
    | error e => rw [hd] at h; cases h
    | ok q =>
      obtain ⟨i, len⟩ := q
      rw [hd] at h
      dsimp only at h ⊢
      cases hr : tm_ret m i len S with
      | some r1 =>
        rw [hr] at h
        dsimp only at h ⊢
        cases h
        exact ⟨rfl, zn_retv hr⟩
      | none =>
        rw [hr] at h
        dsimp only at h ⊢
        cases hc : tm_call m i len S M.1 with
        | some q =>
          obtain ⟨y, vs, rest⟩ := q
          rw [hc] at h
          dsimp only at h ⊢
          obtain ⟨h1, h2⟩ := zn_call hS hc
          cases hy : tm_run X n y 0 (tm_ent y vs) [] M with
          | none => rw [hy] at h; cases h
          | some q =>
            obtain ⟨r1, M1⟩ := q
            rw [hy] at h
            dsimp only at h
            obtain ⟨g1, g2⟩ := ih _ _ _ _ _ _ _ (zn_ent h1) znS_0 hy
            rw [g1]
            exact ih _ _ _ _ _ _ _ hL (zn_app g2 h2) h
        | none =>
          rw [hc] at h
          dsimp only at h ⊢
          rw [zstp_ind (X := X) (X' := X') hS] at h
          cases hs : tm_stp X' m i len pc L S M with
          | none => rw [hs] at h; cases h
          | some q =>
            obtain ⟨pc1, L1, S1, M1⟩ := q
            rw [hs] at h
            dsimp only at h ⊢
            obtain ⟨g1, g2⟩ := zstp_n hL hS hs
            exact ih _ _ _ _ _ _ _ g1 g2 h
def zX0 : tX := (0, fun _ => 0)
def zMa : tM := tm_new tm_M0 10 18
def zr1 : Option (Option Value × tM) := tm_run zX0 1000 0 0 (tm_ent 0 [.ref 0]) [] zMa
def zMb : tM := (zr1.getD (none, tm_M0)).2
def zMc : tM := tm_new zMb 11 73
def zr2 : Option (Option Value × tM) := tm_run zX0 1000 110 0 (tm_ent 110 [.ref 240]) [] zMc
def zM : tM := (zr2.getD (none, tm_M0)).2
def zok1 (r : Option (Option Value × tM)) : Bool := match r with
  | some (none, _) => true
  | _ => false
