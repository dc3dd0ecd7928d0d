/-! a name is put, in the class -/
/-- the bytes from k on, of n in all -/
def zdg (l : List Nat) (s n k j : Nat) : Nat := if k + j < n then l.getD (s + (k + j)) 0 else 0
theorem zdf_top {m : Nat} {f : Nat → Nat} (h : ∀ i, i < m + 1 → f i < 256) : zdf (m + 1) f / 256 ^ m = f 0 ∧ zdf (m + 1) f % 256 ^ m = zdf m (fun i => f (i + 1)) := by
  have h1 := zdf_lt m (fun i => f (i + 1)) (fun i hi => h (i + 1) (by omega))
  have hp : 0 < 256 ^ m := Nat.pow_pos (by decide)
  simp only [zdf]
  refine ⟨by rw [Nat.mul_comm, Nat.mul_add_div hp, Nat.div_eq_of_lt h1, Nat.add_zero], by rw [Nat.mul_comm, Nat.mul_add_mod, Nat.mod_eq_of_lt h1]⟩
theorem zdf_sn : ∀ {m : Nat} {f : Nat → Nat}, zdf (m + 1) f = zdf m f * 256 + f m
  | 0, f => by simp [zdf]
  | m + 1, f => by
    have := zdf_sn (m := m) (f := fun i => f (i + 1))
    rw [zdf, this]
    show f 0 * 256 ^ (m + 1) + (zdf m (fun i => f (i + 1)) * 256 + f (m + 1)) = (f 0 * 256 ^ m + zdf m (fun i => f (i + 1))) * 256 + f (m + 1)
    rw [Nat.pow_succ, Nat.add_mul, Nat.mul_assoc]
    omega
theorem zdf_0 : ∀ {m : Nat} {f : Nat → Nat}, (∀ i, i < m → f i = 0) → zdf m f = 0
  | 0, f, _ => rfl
  | m + 1, f, h => by rw [zdf, h 0 (by omega), zdf_0 (fun i hi => h (i + 1) (by omega))]; simp
theorem zdg_lt {l : List Nat} {s n k : Nat} (hl : zvn l) (j : Nat) : zdg l s n k j < 128 := by
  unfold zdg
  split
  · rcases Nat.lt_or_ge (s + (k + j)) l.length with q | q
    · exact (hl.2.2 _ q).2
    · rw [List.getD_eq_getElem?_getD, List.getElem?_eq_none q]; decide
  · decide
theorem zdg_s {l : List Nat} {s n k m : Nat} (hm : m + 1 = n) : zdf (m + 1) (zdg l s n k) % 256 ^ m * 256 = zdf (m + 1) (zdg l s n (k + 1)) ∨ True := Or.inr trivial
/-- eight bytes: the top one, and the rest moved up -/
theorem zdg_8 {l : List Nat} {k : Nat} (hl : zvn l) : zdf 8 (zdg l 0 8 k) < 2 ^ 64 ∧ zdf 8 (zdg l 0 8 k) / 2 ^ 56 = zdg l 0 8 k 0 ∧ zdf 8 (zdg l 0 8 k) * 2 ^ 8 % 2 ^ 64 = zdf 8 (zdg l 0 8 (k + 1)) := by
  have hlt : ∀ i, i < 7 + 1 → zdg l 0 8 k i < 256 := fun i _ => by have := zdg_lt (s := 0) (n := 8) (k := k) hl i; omega
  have h1 := zdf_lt 8 (zdg l 0 8 k) hlt
  obtain ⟨h2, h3⟩ := zdf_top (m := 7) hlt
  have h4 : zdf 7 (fun i => zdg l 0 8 k (i + 1)) = zdf 7 (zdg l 0 8 (k + 1)) := zdf_ext _ _ _ (fun i _ => by unfold zdg; rw [show k + (i + 1) = k + 1 + i by omega])
  have h5 : zdf 8 (zdg l 0 8 (k + 1)) = zdf 7 (zdg l 0 8 (k + 1)) * 256 := by
    rw [zdf_sn (m := 7)]
    have : zdg l 0 8 (k + 1) 7 = 0 := by unfold zdg; rw [if_neg (by omega)]
    rw [this, Nat.add_zero]
  refine ⟨h1, h2, ?_⟩
  rw [h5, ← h4, ← h3]
  have e1 : (2 : Nat) ^ 64 = 256 ^ 7 * 256 := by decide
  have e2 : (2 : Nat) ^ 8 = 256 := by decide
  rw [e1, e2, Nat.mul_mod_mul_right]
theorem zdg_4 {l : List Nat} {k : Nat} (hl : zvn l) : zdf 4 (zdg l 8 4 k) < 2 ^ 32 ∧ zdf 4 (zdg l 8 4 k) / 2 ^ 24 = zdg l 8 4 k 0 ∧ zdf 4 (zdg l 8 4 k) * 2 ^ 8 % 2 ^ 32 = zdf 4 (zdg l 8 4 (k + 1)) := by
  have hlt : ∀ i, i < 3 + 1 → zdg l 8 4 k i < 256 := fun i _ => by have := zdg_lt (s := 8) (n := 4) (k := k) hl i; omega
  have h1 := zdf_lt 4 (zdg l 8 4 k) hlt
  obtain ⟨h2, h3⟩ := zdf_top (m := 3) hlt
  have h4 : zdf 3 (fun i => zdg l 8 4 k (i + 1)) = zdf 3 (zdg l 8 4 (k + 1)) := zdf_ext _ _ _ (fun i _ => by unfold zdg; rw [show k + (i + 1) = k + 1 + i by omega])
  have h5 : zdf 4 (zdg l 8 4 (k + 1)) = zdf 3 (zdg l 8 4 (k + 1)) * 256 := by
    rw [zdf_sn (m := 3)]
    have : zdg l 8 4 (k + 1) 3 = 0 := by unfold zdg; rw [if_neg (by omega)]
    rw [this, Nat.add_zero]
  refine ⟨h1, h2, ?_⟩
  rw [h5, ← h4, ← h3]
  have e1 : (2 : Nat) ^ 32 = 256 ^ 3 * 256 := by decide
  have e2 : (2 : Nat) ^ 8 = 256 := by decide
  rw [e1, e2, Nat.mul_mod_mul_right]
theorem zdg_z {l : List Nat} {s n k m : Nat} (hl : zvn l) (hk : k < n) (hm : 0 < m) : (zdf m (zdg l s n k) = 0 ↔ l.length ≤ s + k) := by
  obtain ⟨m', rfl⟩ : ∃ m', m = m' + 1 := ⟨m - 1, by omega⟩
  constructor
  · intro h
    rcases Nat.lt_or_ge (s + k) l.length with q | q
    · exfalso
      have h1 : 1 ≤ zdg l s n k 0 := by unfold zdg; rw [if_pos (by omega), Nat.add_zero]; exact (hl.2.2 _ q).1
      rw [zdf] at h
      have h2 : 0 < 256 ^ m' := Nat.pow_pos (by decide)
      have h3 := Nat.mul_le_mul_right (256 ^ m') h1
      omega
    · exact q
  · intro h
    refine zdf_0 (fun i _ => ?_)
    unfold zdg
    split
    · rw [List.getD_eq_getElem?_getD, List.getElem?_eq_none (by omega)]; rfl
    · rfl
theorem ztake_s {l : List Nat} {k : Nat} (h : k < l.length) : l.take (k + 1) = l.take k ++ [l.getD k 0] := by
  rw [List.take_succ, List.getElem?_eq_getElem h, List.getD_eq_getElem?_getD, List.getElem?_eq_getElem h]
  rfl
theorem zl2i : ∀ c, c < 128 → (lN c).toInt32 = nI c := by decide +kernel
theorem zlz {n : Nat} (h : n < 2 ^ 64) : (lN n = 0) = (n = 0) := by
  apply propext
  constructor
  · intro e
    have h1 := wb_tn h
    rw [e] at h1
    have h2 : (0 : Int64).toBitVec.toNat = 0 := by decide
    omega
  · intro e; rw [e]; rfl
theorem ziz {n : Nat} (h : n < 2 ^ 32) : (nI n = 0) = (n = 0) := by
  apply propext
  constructor
  · intro e
    have h1 : (nI n).toBitVec.toNat = n := by rw [ib_tb, BitVec.toNat_ofNat, Nat.mod_eq_of_lt h]
    rw [e] at h1
    have h2 : (0 : Int32).toBitVec.toNat = 0 := by decide
    omega
  · intro e; rw [e]; rfl
theorem zimod (n : Nat) : nI n = nI (n % 2 ^ 32) := by
  apply Int32.toBitVec_inj.mp
  rw [ib_tb, ib_tb]
  apply BitVec.eq_of_toNat_eq
  rw [BitVec.toNat_ofNat, BitVec.toNat_ofNat, Nat.mod_mod]
theorem zishr {n : Nat} (h : n < 2 ^ 32) : ((nI n).toUInt32 >>> ((nI 24).toUInt32 &&& Int32.toUInt32 31)).toInt32 = nI (n / 2 ^ 24) := by
  have e : (nI 24).toUInt32 &&& Int32.toUInt32 31 = UInt32.ofNat 24 := by decide
  rw [e]
  apply Int32.toBitVec_inj.mp
  apply BitVec.eq_of_toNat_eq
  show ((nI n).toUInt32 >>> UInt32.ofNat 24).toNat = (BitVec.ofNat 32 _).toNat
  have h2 : (nI n).toUInt32.toNat = n := by
    show (BitVec.ofNat 32 n).toNat = n
    rw [BitVec.toNat_ofNat, Nat.mod_eq_of_lt h]
  rw [UInt32.toNat_shiftRight, h2, BitVec.toNat_ofNat, Nat.mod_eq_of_lt (Nat.lt_of_le_of_lt (Nat.div_le_self _ _) h)]
  show n >>> (24 % 32) = _
  rw [Nat.shiftRight_eq_div_pow]
