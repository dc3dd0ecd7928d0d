/-! small words for the walks -/
theorem z01_0 : (nI 0 = 0 ∨ nI 0 = 1) = True := by simp [nI_0]
theorem z01_1 : (nI 1 = 0 ∨ nI 1 = 1) = True := eq_true (Or.inr rfl)
theorem zlt0 {n : Nat} (h : n < 2147483648) : (nI n < 0) = False := eq_false (nI_pos h)
theorem zge0 {n : Nat} (h : n < 2147483648) : (0 ≤ nI n) = True := eq_true (nI_pos' h)
theorem zu_s {α : Type} {f : Nat → α} {k : Nat} {v : α} : va_up f k v k = v := by simp [va_up]
theorem zu_n {α : Type} {f : Nat → α} {k j : Nat} {v : α} (h : j ≠ k) : va_up f k v j = f j := by simp [va_up, h]
theorem zlt {a b : Nat} (ha : a < 2147483648) (hb : b < 2147483648) : (nI a < nI b) = (a < b) := propext (nI_ltI ha hb)
theorem zle {a b : Nat} (ha : a < 2147483648) (hb : b < 2147483648) : (nI a ≤ nI b) = (a ≤ b) := propext (nI_leI ha hb)
theorem zeq {a b : Nat} (ha : a < 2147483648) (hb : b < 2147483648) : (nI a = nI b) = (a = b) := propext (nI_eq ha hb)
theorem zeq0 {a : Nat} (ha : a < 2147483648) : (nI a = 0) = (a = 0) := by rw [← nI_0]; exact zeq ha (by decide)
theorem zgt0 {a : Nat} (ha : a < 2147483648) : (0 < nI a) = (0 < a) := by rw [← nI_0]; exact zlt (by decide) ha
theorem zle0 {a : Nat} (ha : a < 2147483648) : (nI a ≤ 0) = (a = 0) := by rw [← nI_0, zle ha (by decide)]; apply propext; omega
theorem zsub {a b : Nat} (h : b ≤ a) : nI a - nI b = nI (a - b) := pk_sub h
theorem zm1 {a : Nat} (h : 0 < a) : nI a + (-1) = nI (a - 1) := by
  obtain ⟨n, rfl⟩ : ∃ n, a = n + 1 := ⟨a - 1, by omega⟩
  exact pk_m1 n
theorem zne1 {a : Nat} (h : a < 2147483648) : (nI a = -1) = False := by
  apply eq_false
  intro e
  have h1 := nI_toInt h
  rw [e] at h1
  have h2 : (-1 : Int32).toInt = -1 := by decide
  omega
/-- an int is a number from 0 on, or negative -/
theorem zof (x : Int32) : x < 0 ∨ ∃ j : Nat, j < 2147483648 ∧ x = nI j := by
  by_cases h : x < 0
  · exact Or.inl h
  · obtain ⟨j, h1, h2⟩ := nI_of h
    exact Or.inr ⟨j, h1, h2⟩
theorem zu_d {α : Type} {f : Nat → α} {k : Nat} {v w : α} : va_up (va_up f k v) k w = va_up f k w := by
  funext j
  by_cases h : j = k <;> simp [va_up, h]
theorem zu_c {α : Type} {f : Nat → α} {a b : Nat} {v w : α} (h : b < a) : va_up (va_up f a v) b w = va_up (va_up f b w) a v := by
  have hab : ¬ a = b := by omega
  have hba : ¬ b = a := by omega
  funext j
  by_cases h1 : j = a
  · subst h1
    simp [va_up, hab]
  · by_cases h2 : j = b
    · subst h2
      simp [va_up, hba]
    · simp [va_up, h1, h2]
theorem z8a : nI 24 + (-8) = nI 16 := by decide
theorem z8b : nI 16 + (-8) = nI 8 := by decide
theorem z8c : nI 8 + (-8) = nI 0 := by decide
theorem z8d : nI 0 + (-8) = (-8) := by decide
theorem z8e : ((0 : Int32) ≤ (-8)) = False := by decide
theorem z8f : ((-8 : Int32) < 0) = True := by decide
theorem zite {c A B : Prop} : ((c → A) ∧ (¬ c → B)) = @ite Prop c (Classical.propDecidable c) A B := by
  by_cases h : c <;> simp [h]
theorem zadd1 {a b c : Nat} : a + b + c = a + (b + c) := Nat.add_assoc a b c
theorem zle_t {a b : Nat} (h : a ≤ b) : (a ≤ b) = True := eq_true h
theorem zle_f {a b : Nat} (h : b < a) : (a ≤ b) = False := eq_false (Nat.not_le.mpr h)
theorem zlt_t {a b : Nat} (h : a < b) : (a < b) = True := eq_true h
theorem zlt_f {a b : Nat} (h : b ≤ a) : (a < b) = False := eq_false (Nat.not_lt.mpr h)
theorem zen_t {a b : Nat} (h : a = b) : (a = b) = True := eq_true h
theorem zen_f {a b : Nat} (h : a ≠ b) : (a = b) = False := eq_false h
