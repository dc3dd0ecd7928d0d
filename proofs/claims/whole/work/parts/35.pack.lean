/-! a name's bytes as numbers -/
def zhn (b : Nat → Nat) (a : Nat) : Nat → Nat
  | 0 => 0
  | i + 1 => if i < 8 then zhn b a i + b (a + i) * 2 ^ (56 - 8 * i) else zhn b a i
theorem zhn_mul (b : Nat → Nat) (a : Nat) : ∀ i, i ≤ 8 → ∃ q, zhn b a i = q * 2 ^ (64 - 8 * i) := by
  intro i
  induction i with
  | zero => intro _; exact ⟨0, by simp [zhn]⟩
  | succ i ih =>
    intro h
    obtain ⟨q, hq⟩ := ih (by omega)
    refine ⟨q * 256 + b (a + i), ?_⟩
    simp only [zhn, if_pos (show i < 8 by omega), hq]
    have e1 : 64 - 8 * i = (64 - 8 * (i + 1)) + 8 := by omega
    have e2 : 56 - 8 * i = 64 - 8 * (i + 1) := by omega
    rw [e1, e2, Nat.pow_add, Nat.add_mul]
    congr 1
    rw [show (2 : Nat) ^ 8 = 256 by decide, Nat.mul_assoc, Nat.mul_comm (2 ^ (64 - 8 * (i + 1))) 256]
/-- the bytes are all less than 128: the number, less than 2^63; what comes behind the first byte is less than 2^56 -/
theorem zhn_lt {b : Nat → Nat} {a l : Nat} (h : ∀ i, i < l → b (a + i) < 128) : ∀ i, 1 ≤ i → i ≤ l → b a * 2 ^ 56 ≤ zhn b a i ∧ zhn b a i + 2 ^ (64 - 8 * (min i 8)) ≤ (b a + 1) * 2 ^ 56 := by
  intro i
  induction i with
  | zero => omega
  | succ i ih =>
    intro _ hil
    by_cases h0 : i = 0
    · subst h0
      simp [zhn]
      omega
    · obtain ⟨i1, i2⟩ := ih (by omega) (by omega)
      simp only [zhn]
      by_cases h8 : i < 8
      · rw [if_pos h8]
        rw [show min i 8 = i by omega] at i2
        rw [show min (i + 1) 8 = i + 1 by omega]
        have hb := h i (by omega)
        have e1 : 64 - 8 * i = (64 - 8 * (i + 1)) + 8 := by omega
        have e2 : 56 - 8 * i = 64 - 8 * (i + 1) := by omega
        rw [e1, Nat.pow_add, show (2 : Nat) ^ 8 = 256 by decide] at i2
        rw [e2]
        have h3 : b (a + i) * 2 ^ (64 - 8 * (i + 1)) ≤ 127 * 2 ^ (64 - 8 * (i + 1)) := Nat.mul_le_mul_right _ (by omega)
        generalize 2 ^ (64 - 8 * (i + 1)) = P at *
        generalize b (a + i) * P = Y at *
        omega
      · rw [if_neg h8]
        rw [show min i 8 = 8 by omega] at i2
        rw [show min (i + 1) 8 = 8 by omega]
        exact ⟨i1, i2⟩
theorem zhd_n {b : Nat → Nat} {a l : Nat} (h : ∀ i, i < l → b (a + i) < 128) : ∀ i, i ≤ l → zhd b a i = lN (zhn b a i) := by
  intro i
  induction i with
  | zero => intro _; rfl
  | succ i ih =>
    intro hil
    simp only [zhd, zhn]
    by_cases h8 : i < 8
    · rw [if_pos h8, if_pos h8, ih (by omega)]
      have hb := h i (by omega)
      rw [zsb_lo _ hb, nI_l (by omega), wb_shl _ (by omega)]
      obtain ⟨q, hq⟩ := zhn_mul b a i (by omega)
      rw [hq]
      refine g_or (k := 64 - 8 * i) rfl ?_ ?_
      · have e1 : 64 - 8 * i = (56 - 8 * i) + 8 := by omega
        rw [e1, Nat.pow_add, Nat.mul_comm]
        exact Nat.mul_lt_mul_of_pos_left (by omega) (Nat.pow_pos (by decide))
      · have hl := (zhn_lt h (i + 1) (by omega) hil).2
        simp only [zhn, if_pos h8, hq] at hl
        have hb0 : b a < 128 := by have := h 0 (by omega); simpa using this
        have : (b a + 1) * 2 ^ 56 ≤ 128 * 2 ^ 56 := Nat.mul_le_mul_right _ (by omega)
        generalize 2 ^ (64 - 8 * min (i + 1) 8) = P at hl
        omega
    · rw [if_neg h8, if_neg h8, ih (by omega)]
theorem zhd_top {b : Nat → Nat} {a i : Nat} (h : ∀ j, j < i → b (a + j) < 128) (hi : 1 ≤ i) : ((zhd b a i).toUInt64 >>> ((nI 56).toInt64.toUInt64 &&& Int64.toUInt64 63)).toInt64 = lN (b a) := by
  have hl := zhn_lt h i hi (Nat.le_refl _)
  have hb0 : b a < 128 := by have := h 0 (by omega); simpa using this
  have h1 : (b a + 1) * 2 ^ 56 ≤ 128 * 2 ^ 56 := Nat.mul_le_mul_right _ (by omega)
  have h2 : 0 < 2 ^ (64 - 8 * (min i 8)) := Nat.pow_pos (by decide)
  rw [zhd_n h i (Nat.le_refl _), wb_shr (by omega) (by decide)]
  congr 1
  omega
