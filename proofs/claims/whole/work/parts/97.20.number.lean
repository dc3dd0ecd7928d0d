/-! variables are numbered as they come first; two rows that say the same -/
def unb (N : List Nat) : List Nat → List Nat
  | [] => N
  | c :: L => unb (if c < 100 ∨ c ∈ N then N else N ++ [c]) L
def uix : List Nat → Nat → Nat
  | [], _ => 0
  | a :: N, c => if a = c then 0 else 1 + uix N c
def uot (N : List Nat) (L : List Nat) : List Nat := L.map (fun c => if c < 100 then c else 1000 + uix N c)
theorem unb_ap : ∀ (A B N : List Nat), unb N (A ++ B) = unb (unb N A) B
  | [], B, N => rfl
  | c :: A, B, N => by simp only [List.cons_append, unb]; exact unb_ap A B _
theorem unb_sub : ∀ (L N : List Nat) c, c ∈ N → c ∈ unb N L
  | [], N, c, h => h
  | d :: L, N, c, h => by
    simp only [unb]
    apply unb_sub
    split
    · exact h
    · exact List.mem_append_left _ h
theorem unb_mem : ∀ (L N : List Nat) c, c ∈ L → 100 ≤ c → c ∈ unb N L
  | d :: L, N, c, h, hc => by
    simp only [unb]
    rcases List.mem_cons.mp h with q | q
    · subst q
      apply unb_sub
      split
      · rename_i hh
        rcases hh with z | z
        · omega
        · exact z
      · exact List.mem_append_right _ (List.mem_singleton.mpr rfl)
    · exact unb_mem L _ c q hc
/-- what has all its numbers adds none -/
theorem unb_no : ∀ (L N : List Nat), (∀ c, c ∈ L → 100 ≤ c → c ∈ N) → unb N L = N
  | [], N, _ => rfl
  | d :: L, N, h => by
    simp only [unb]
    have : d < 100 ∨ d ∈ N := by
      rcases Nat.lt_or_ge d 100 with q | q
      · exact Or.inl q
      · exact Or.inr (h d (List.mem_cons_self ..) q)
    rw [if_pos this]
    exact unb_no L N (fun c hc => h c (List.mem_cons_of_mem _ hc))
theorem unb_pre : ∀ (L N : List Nat), ∃ M, unb N L = N ++ M
  | [], N => ⟨[], by simp [unb]⟩
  | d :: L, N => by
    simp only [unb]
    split
    · exact unb_pre L N
    · obtain ⟨M, hM⟩ := unb_pre L (N ++ [d])
      exact ⟨d :: M, by rw [hM]; simp⟩
theorem uix_ap : ∀ (N M : List Nat) c, c ∈ N → uix (N ++ M) c = uix N c
  | a :: N, M, c, h => by
    simp only [List.cons_append, uix]
    by_cases e : a = c
    · rw [if_pos e, if_pos e]
    · rw [if_neg e, if_neg e, uix_ap N M c (by
        rcases List.mem_cons.mp h with q | q
        · exact absurd q.symm e
        · exact q)]
theorem uix_new : ∀ (N : List Nat) c, c ∉ N → uix (N ++ [c]) c = N.length
  | [], c, _ => by simp [uix]
  | a :: N, c, h => by
    simp only [List.cons_append, uix, List.length_cons]
    rw [if_neg (fun e => h (by rw [e]; exact List.mem_cons_self ..)), uix_new N c (fun q => h (List.mem_cons_of_mem _ q))]
    omega
theorem uix_lt : ∀ (N : List Nat) c, c ∈ N → uix N c < N.length
  | a :: N, c, h => by
    simp only [uix, List.length_cons]
    split
    · omega
    · rename_i e
      have := uix_lt N c (by
        rcases List.mem_cons.mp h with q | q
        · exact absurd q.symm e
        · exact q)
      omega
/-- a code of one row and its code of the other -/
def ucr (R : Nat → Nat → Prop) (a b : Nat) : Prop := (a < 100 ∧ a = b) ∨ (100 ≤ a ∧ 100 ≤ b ∧ R a b)
def ulr (R : Nat → Nat → Prop) : List Nat → List Nat → Prop
  | [], [] => True
  | a :: as, b :: bs => ucr R a b ∧ ulr R as bs
  | _, _ => False
theorem ulr_len {R : Nat → Nat → Prop} : ∀ {A B : List Nat}, ulr R A B → A.length = B.length
  | [], [], _ => rfl
  | a :: as, b :: bs, h => by simp only [List.length_cons, ulr_len h.2]
  | [], b :: bs, h => False.elim h
  | a :: as, [], h => False.elim h
theorem ulr_ap {R : Nat → Nat → Prop} : ∀ {A B C D : List Nat}, ulr R A B → ulr R C D → ulr R (A ++ C) (B ++ D)
  | [], [], C, D, _, h => h
  | a :: as, b :: bs, C, D, h, h' => ⟨h.1, ulr_ap h.2 h'⟩
  | [], b :: bs, _, _, h, _ => False.elim h
  | a :: as, [], _, _, h, _ => False.elim h
section NR
variable {R : Nat → Nat → Prop}
theorem ulr_mem (hR : ∀ a b a' b', R a b → R a' b' → (a = a' ↔ b = b')) {a b : Nat} (ha : 100 ≤ a) (hb : 100 ≤ b) (h : R a b) : ∀ {A B : List Nat}, ulr R A B → (a ∈ A ↔ b ∈ B)
  | [], [], _ => ⟨fun h => (by cases h), fun h => (by cases h)⟩
  | c :: as, d :: bs, h' => by
    rw [List.mem_cons, List.mem_cons, ulr_mem hR ha hb h h'.2]
    have : a = c ↔ b = d := by
      rcases h'.1 with ⟨q1, q2⟩ | ⟨q1, q2, q3⟩
      · subst q2; constructor <;> intro q <;> omega
      · exact hR _ _ _ _ h q3
    rw [this]
  | [], b :: bs, h' => False.elim h'
  | a :: as, [], h' => False.elim h'
theorem ulr_ix (hR : ∀ a b a' b', R a b → R a' b' → (a = a' ↔ b = b')) {a b : Nat} (ha : 100 ≤ a) (hb : 100 ≤ b) (h : R a b) : ∀ {A B : List Nat}, ulr R A B → uix A a = uix B b
  | [], [], _ => rfl
  | c :: as, d :: bs, h' => by
    simp only [uix]
    have : c = a ↔ d = b := by
      rcases h'.1 with ⟨q1, q2⟩ | ⟨q1, q2, q3⟩
      · subst q2; constructor <;> intro q <;> omega
      · exact hR _ _ _ _ q3 h
    by_cases e : c = a
    · rw [if_pos e, if_pos (this.mp e)]
    · rw [if_neg e, if_neg (fun q => e (this.mpr q)), ulr_ix hR ha hb h h'.2]
  | [], b :: bs, h' => False.elim h'
  | a :: as, [], h' => False.elim h'
theorem ulr_unb (hR : ∀ a b a' b', R a b → R a' b' → (a = a' ↔ b = b')) : ∀ {A B N M : List Nat}, ulr R A B → ulr R N M → ulr R (unb N A) (unb M B)
  | [], [], N, M, _, h => h
  | a :: as, b :: bs, N, M, h, h' => by
    simp only [unb]
    refine ulr_unb hR h.2 ?_
    rcases h.1 with ⟨q1, q2⟩ | ⟨q1, q2, q3⟩
    · subst q2
      rw [if_pos (Or.inl q1), if_pos (Or.inl q1)]
      exact h'
    · have hm := ulr_mem hR q1 q2 q3 h'
      by_cases e : a ∈ N
      · rw [if_pos (Or.inr e), if_pos (Or.inr (hm.mp e))]
        exact h'
      · rw [if_neg (fun z => by rcases z with z | z; omega; exact e z), if_neg (fun z => by rcases z with z | z; omega; exact e (hm.mpr z))]
        exact ulr_ap h' ⟨Or.inr ⟨q1, q2, q3⟩, trivial⟩
  | [], b :: bs, _, _, h, _ => False.elim h
  | a :: as, [], _, _, h, _ => False.elim h
theorem ulr_ot (hR : ∀ a b a' b', R a b → R a' b' → (a = a' ↔ b = b')) {N M : List Nat} (hN : ulr R N M) : ∀ {A B : List Nat}, ulr R A B → uot N A = uot M B
  | [], [], _ => rfl
  | a :: as, b :: bs, h => by
    simp only [uot, List.map_cons]
    have h2 := ulr_ot hR hN h.2
    simp only [uot] at h2
    rw [h2]
    congr 1
    rcases h.1 with ⟨q1, q2⟩ | ⟨q1, q2, q3⟩
    · subst q2; rw [if_pos q1, if_pos q1]
    · rw [if_neg (by omega), if_neg (by omega), ulr_ix hR q1 q2 q3 hN]
  | [], b :: bs, h => False.elim h
  | a :: as, [], h => False.elim h
end NR
def xfr (R : Nat → Nat → Prop) : xF → xF → Prop
  | (.leaf ()), (.leaf ()) => True
  | .branch c k r, .branch c' k' r' => ucr R c c' ∧ xfr R k k' ∧ xfr R r r'
  | _, _ => False
theorem xfr_ap {R : Nat → Nat → Prop} : ∀ {f g f' g' : xF}, xfr R f g → xfr R f' g' → xfr R (xap f f') (xap g g')
  | (.leaf ()), (.leaf ()), f', g', _, h => h
  | .branch c k r, .branch c' k' r', f', g', h, h' => ⟨h.1, h.2.1, xfr_ap h.2.2 h'⟩
  | (.leaf ()), .branch c' k' r', _, _, h, _ => False.elim h
  | .branch c k r, (.leaf ()), _, _, h, _ => False.elim h
theorem xfr_fl {R : Nat → Nat → Prop} {g g' : Nat → xF} : ∀ n, (∀ i, i < n → xfr R (g i) (g' i)) → xfr R (xfl g n) (xfl g' n)
  | 0, _ => trivial
  | n + 1, h => xfr_ap (xfr_fl n (fun i hi => h i (by omega))) (h n (by omega))
theorem xfr_p {R : Nat → Nat → Prop} : ∀ {f g : xF}, xfr R f g → ulr R (xp f) (xp g)
  | (.leaf ()), (.leaf ()), _ => trivial
  | .branch c k r, .branch c' k' r', h => ⟨h.1, ulr_ap (xfr_p h.2.1) (xfr_p h.2.2)⟩
  | (.leaf ()), .branch c' k' r', h => False.elim h
  | .branch c k r, (.leaf ()), h => False.elim h
/-! the terms of the classes -/
noncomputable def uTc (K : tK) (i j : Nat) (rt : Nat → Nat) (sy : Nat → Option Nat) : Nat → Nat → xF
  | 0, _ => .leaf ()
  | f + 1, x => match sy (rt x) with
    | some s => .branch (uw K i j 40 s) (xfl (fun k => uTc K i j rt sy f (uch K i j 40 s k)) (ua K i j 40 s)) (.leaf ())
    | none => .branch (100 + rt x) (.leaf ()) (.leaf ())
