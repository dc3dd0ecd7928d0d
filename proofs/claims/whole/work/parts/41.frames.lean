/-! frames: what a call leaves as it was -/
def zfr {α : Type} (S : Nat → Bool) (f g : Nat → α) : Prop := ∀ o, S o = false → g o = f o
def zin (l : List Nat) : Nat → Bool := fun o => l.contains o
section FR
variable {α : Type} {S S' : Nat → Bool} {f g k : Nat → α} {o : Nat} {v : α}
theorem zfr.rf : zfr S f f := fun _ _ => rfl
theorem zfr.tr (h : zfr S f g) (h' : zfr S g k) : zfr S f k := fun o e => (h' o e).trans (h o e)
theorem zfr.up (h : zfr S f g) (ho : S o = true) : zfr S f (va_up g o v) := fun x hx => by
  have : ¬ x = o := fun e => by subst e; rw [ho] at hx; cases hx
  simp only [va_up, this, if_false]
  exact h x hx
theorem zfr.mono (h : zfr S f g) (hs : ∀ x, S x = true → S' x = true) : zfr S' f g := fun o e => h o (by
  cases hq : S o with
  | false => rfl
  | true => rw [hs o hq] at e; cases e)
theorem zfr.of (h : zfr S f g) (o : Nat) (ho : S o = false) : g o = f o := h o ho
end FR
/-! ints as bits -/
theorem ib_c : ∀ k, k < 32 → (nI k &&& 31) = nI k := by decide +kernel
theorem ib_sm : ∀ k, k < 32 → (BitVec.ofNat 32 k).smod 32 = BitVec.ofNat 32 k := by decide +kernel
theorem ib_tb (n : Nat) : (nI n).toBitVec = BitVec.ofNat 32 n := rfl
theorem ib_tn {n : Nat} (h : n < 2 ^ 32) : (UInt32.ofNat n).toNat = n := Nat.mod_eq_of_lt h
theorem ib_shl (n : Nat) {k : Nat} (hk : k < 32) : nI n <<< (nI k &&& 31) = nI (n * 2 ^ k) := by
  rw [ib_c k hk]
  apply Int32.toBitVec_inj.mp
  rw [Int32.toBitVec_shiftLeft, ib_tb, ib_tb, ib_tb, ib_sm k hk]
  apply BitVec.eq_of_toNat_eq
  rw [BitVec.shiftLeft_eq', BitVec.toNat_shiftLeft, BitVec.toNat_ofNat, BitVec.toNat_ofNat, BitVec.toNat_ofNat, Nat.mod_eq_of_lt (show k < 2 ^ 32 by omega), Nat.shiftLeft_eq, Nat.mul_mod, Nat.mod_mod, ← Nat.mul_mod]
theorem ib_or {k p a b : Nat} (hp : 2 ^ k = p) (ha : a < p) (h : b * p + a < 2 ^ 32) : nI (b * p) ||| nI a = nI (b * p + a) := by
  subst hp
  have h1 : b * 2 ^ k ||| a = b * 2 ^ k + a := by rw [← Nat.shiftLeft_eq, Nat.shiftLeft_add_eq_or_of_lt ha]
  have h3 : UInt32.ofNat (b * 2 ^ k) ||| UInt32.ofNat a = UInt32.ofNat (b * 2 ^ k + a) := UInt32.toNat_inj.mp (by rw [UInt32.toNat_or, ib_tn (by omega), ib_tn (by omega), ib_tn h, h1])
  have h2 := congrArg UInt32.toInt32 h3
  exact h2
/-! digits -/
def zdf : Nat → (Nat → Nat) → Nat
  | 0, _ => 0
  | k + 1, f => f 0 * 256 ^ k + zdf k (fun i => f (i + 1))
theorem zdf_lt : ∀ (k : Nat) (f : Nat → Nat), (∀ i, i < k → f i < 256) → zdf k f < 256 ^ k := by
  intro k
  induction k with
  | zero => intro f _; simp [zdf]
  | succ k ih =>
    intro f h
    have h1 := ih (fun i => f (i + 1)) (fun i hi => h (i + 1) (by omega))
    have h2 : f 0 * 256 ^ k ≤ 255 * 256 ^ k := Nat.mul_le_mul_right _ (by have := h 0 (by omega); omega)
    simp only [zdf, Nat.pow_succ]
    omega
theorem zdf_inj : ∀ (k : Nat) (f g : Nat → Nat), (∀ i, i < k → f i < 256) → (∀ i, i < k → g i < 256) → zdf k f = zdf k g → ∀ i, i < k → f i = g i := by
  intro k
  induction k with
  | zero => intro f g _ _ _ i hi; omega
  | succ k ih =>
    intro f g hf hg h
    simp only [zdf] at h
    have h1 := zdf_lt k (fun i => f (i + 1)) (fun i hi => hf (i + 1) (by omega))
    have h2 := zdf_lt k (fun i => g (i + 1)) (fun i hi => hg (i + 1) (by omega))
    have hp : 0 < 256 ^ k := Nat.pow_pos (by decide)
    have e1 : (f 0 * 256 ^ k + zdf k (fun i => f (i + 1))) / 256 ^ k = f 0 := by
      rw [Nat.mul_comm, Nat.mul_add_div hp, Nat.div_eq_of_lt h1, Nat.add_zero]
    have e2 : (g 0 * 256 ^ k + zdf k (fun i => g (i + 1))) / 256 ^ k = g 0 := by
      rw [Nat.mul_comm, Nat.mul_add_div hp, Nat.div_eq_of_lt h2, Nat.add_zero]
    have h0 : f 0 = g 0 := by rw [← e1, ← e2, h]
    rw [h0] at h
    have hr := ih (fun i => f (i + 1)) (fun i => g (i + 1)) (fun i hi => hf (i + 1) (by omega)) (fun i hi => hg (i + 1) (by omega)) (by omega)
    intro i hi
    match i with
    | 0 => exact h0
    | i + 1 => exact hr i (by omega)
theorem zdf_ext : ∀ (k : Nat) (f g : Nat → Nat), (∀ i, i < k → f i = g i) → zdf k f = zdf k g := by
  intro k
  induction k with
  | zero => intro f g _; rfl
  | succ k ih =>
    intro f g h
    simp only [zdf]
    rw [h 0 (by omega), ih (fun i => f (i + 1)) (fun i => g (i + 1)) (fun i hi => h (i + 1) (by omega))]
/-! names -/
/-- the bytes of a name -/
def zbs (b : Nat → Nat) (a len : Nat) : List Nat := (List.range len).map (fun i => b (a + i))
def zHn (l : List Nat) : Nat := zdf 8 (fun j => l.getD j 0)
def zTn (l : List Nat) : Nat := zdf 4 (fun j => l.getD (8 + j) 0)
def zHd (l : List Nat) : Int64 := lN (zHn l)
def zTl (l : List Nat) : Int32 := nI (zTn l)
def zvn (l : List Nat) : Prop := 1 ≤ l.length ∧ l.length ≤ 12 ∧ ∀ i, i < l.length → 1 ≤ l.getD i 0 ∧ l.getD i 0 < 128
theorem zbs_len {b : Nat → Nat} {a len : Nat} : (zbs b a len).length = len := by simp [zbs]
theorem zbs_get {b : Nat → Nat} {a len i : Nat} (h : i < len) : (zbs b a len).getD i 0 = b (a + i) := by
  rw [List.getD_eq_getElem?_getD]
  simp [zbs, h]
theorem zbs_get0 {b : Nat → Nat} {a len i : Nat} (h : len ≤ i) : (zbs b a len).getD i 0 = 0 := by
  rw [List.getD_eq_getElem?_getD, List.getElem?_eq_none (by simp [zbs]; exact h)]
  rfl
theorem zvn_lt {l : List Nat} (h : zvn l) (i : Nat) : l.getD i 0 < 128 := by
  by_cases hi : i < l.length
  · exact (h.2.2 i hi).2
  · rw [List.getD_eq_getElem?_getD, List.getElem?_eq_none (by omega)]; simp
theorem zHn_lt {l : List Nat} (h : zvn l) : zHn l < 2 ^ 63 := by
  have h1 := zdf_lt 7 (fun i => l.getD (i + 1) 0) (fun i _ => by have := zvn_lt h (i + 1); omega)
  have h2 : l.getD 0 0 * 256 ^ 7 ≤ 127 * 256 ^ 7 := Nat.mul_le_mul_right _ (by have := zvn_lt h 0; omega)
  have e : zHn l = l.getD 0 0 * 256 ^ 7 + zdf 7 (fun i => l.getD (i + 1) 0) := rfl
  rw [e]
  generalize zdf 7 (fun i => l.getD (i + 1) 0) = Z at *
  generalize l.getD 0 0 = Y at *
  omega
theorem zTn_lt {l : List Nat} (h : zvn l) : zTn l < 2 ^ 31 := by
  have h1 := zdf_lt 3 (fun i => l.getD (8 + (i + 1)) 0) (fun i _ => by have := zvn_lt h (8 + (i + 1)); omega)
  have h2 : l.getD (8 + 0) 0 * 256 ^ 3 ≤ 127 * 256 ^ 3 := Nat.mul_le_mul_right _ (by have := zvn_lt h (8 + 0); omega)
  have e : zTn l = l.getD (8 + 0) 0 * 256 ^ 3 + zdf 3 (fun i => l.getD (8 + (i + 1)) 0) := rfl
  rw [e]
  generalize zdf 3 (fun i => l.getD (8 + (i + 1)) 0) = Z at *
  generalize l.getD (8 + 0) 0 = Y at *
  omega
theorem zn_inj {l l' : List Nat} (h : zvn l) (h' : zvn l') (e1 : zHd l = zHd l') (e2 : zTl l = zTl l') : l = l' := by
  have a1 : zHn l = zHn l' := (pk_lEQ (zHn_lt h) (zHn_lt h')).mp e1
  have a2 : zTn l = zTn l' := (nI_eq (zTn_lt h) (zTn_lt h')).mp e2
  have b1 := zdf_inj 8 _ _ (fun i _ => by have := zvn_lt h i; omega) (fun i _ => by have := zvn_lt h' i; omega) a1
  have b2 := zdf_inj 4 _ _ (fun i _ => by have := zvn_lt h (8 + i); omega) (fun i _ => by have := zvn_lt h' (8 + i); omega) a2
  have c : ∀ i, i < 12 → l.getD i 0 = l'.getD i 0 := by
    intro i hi
    by_cases h8 : i < 8
    · exact b1 i h8
    · have := b2 (i - 8) (by omega)
      rw [show 8 + (i - 8) = i by omega] at this
      exact this
  have z : ∀ (m : List Nat) (i : Nat), m.length ≤ i → m.getD i 0 = 0 := fun m i hi => by rw [List.getD_eq_getElem?_getD, List.getElem?_eq_none hi]; rfl
  have hl : l.length = l'.length := by
    rcases Nat.lt_trichotomy l.length l'.length with q | q | q
    · have p1 := (h'.2.2 l.length q).1
      have := h'.2.1
      rw [← c l.length (by omega), z l l.length (Nat.le_refl _)] at p1
      omega
    · exact q
    · have p1 := (h.2.2 l'.length q).1
      have := h.2.1
      rw [c l'.length (by omega), z l' l'.length (Nat.le_refl _)] at p1
      omega
  apply List.ext_getElem hl
  intro i hi hi'
  have := c i (by have := h.2.1; omega)
  rw [List.getD_eq_getElem?_getD, List.getD_eq_getElem?_getD, List.getElem?_eq_getElem hi, List.getElem?_eq_getElem hi'] at this
  exact this
theorem zhn_dg {b : Nat → Nat} {a : Nat} : ∀ i, zhn b a i = zdf 8 (fun j => if j < i then b (a + j) else 0) := by
  intro i
  induction i with
  | zero => simp [zhn, zdf]
  | succ i ih =>
    simp only [zhn, ih]
    match i with
    | 0 => simp [zdf]
    | 1 => simp [zdf]
    | 2 => simp [zdf, Nat.add_assoc]
    | 3 => simp [zdf, Nat.add_assoc]
    | 4 => simp [zdf, Nat.add_assoc]
    | 5 => simp [zdf, Nat.add_assoc]
    | 6 => simp [zdf, Nat.add_assoc]
    | 7 => simp [zdf, Nat.add_assoc]
    | i + 8 =>
      rw [if_neg (by omega)]
      apply zdf_ext
      intro j hj
      rw [if_pos (by omega), if_pos (by omega)]
def ztn (b : Nat → Nat) (a i : Nat) : Nat := zdf 4 (fun j => if 8 + j < i then b (a + (8 + j)) else 0)
theorem ztl_n {b : Nat → Nat} {a l : Nat} (h : ∀ i, i < l → b (a + i) < 128) : ∀ i, i ≤ l → ztl b a i = nI (ztn b a i) := by
  intro i
  induction i with
  | zero => intro _; simp [ztl, ztn, zdf]; rfl
  | succ i ih =>
    intro hil
    simp only [ztl]
    rw [ih (by omega)]
    have hb := h i (by omega)
    by_cases h8 : i < 8
    · rw [if_pos h8]
      refine congrArg nI (zdf_ext 4 _ _ ?_)
      intro j hj
      rw [if_neg (by omega), if_neg (by omega)]
    · rw [if_neg h8]
      by_cases h12 : i < 12
      · rw [if_pos h12, zsb_lo _ hb, ib_shl _ (by omega)]
        have g8 := fun k => h k
        have hb8 : i = 8 ∨ i = 9 ∨ i = 10 ∨ i = 11 := by omega
        rcases hb8 with e | e | e | e <;> subst e
        · have e0 : ztn b a 8 = 0 * 2 ^ 32 := by simp [ztn, zdf]
          have e1 : ztn b a 9 = 0 * 2 ^ 32 + b (a + 8) * 2 ^ 24 := by simp [ztn, zdf]
          rw [e0, e1]
          exact ib_or rfl (by omega) (by omega)
        · have x8 := h 8 (by omega)
          have e0 : ztn b a 9 = b (a + 8) * 2 ^ 24 := by simp [ztn, zdf]
          have e1 : ztn b a 10 = b (a + 8) * 2 ^ 24 + b (a + 9) * 2 ^ 16 := by simp [ztn, zdf]
          rw [e0, e1]
          exact ib_or rfl (by omega) (by omega)
        · have x8 := h 8 (by omega)
          have x9 := h 9 (by omega)
          have e0 : ztn b a 10 = (b (a + 8) * 2 ^ 8 + b (a + 9)) * 2 ^ 16 := by simp [ztn, zdf]; omega
          have e1 : ztn b a 11 = (b (a + 8) * 2 ^ 8 + b (a + 9)) * 2 ^ 16 + b (a + 10) * 2 ^ 8 := by simp [ztn, zdf]; omega
          rw [e0, e1]
          exact ib_or rfl (by omega) (by omega)
        · have x8 := h 8 (by omega)
          have x9 := h 9 (by omega)
          have x10 := h 10 (by omega)
          have e0 : ztn b a 11 = (b (a + 8) * 2 ^ 16 + b (a + 9) * 2 ^ 8 + b (a + 10)) * 2 ^ 8 := by simp [ztn, zdf]; omega
          have e1 : ztn b a 12 = (b (a + 8) * 2 ^ 16 + b (a + 9) * 2 ^ 8 + b (a + 10)) * 2 ^ 8 + b (a + 11) * 2 ^ 0 := by simp [ztn, zdf]; omega
          rw [e0, e1]
          exact ib_or rfl (by omega) (by omega)
      · rw [if_neg h12]
        refine congrArg nI (zdf_ext 4 _ _ ?_)
        intro j hj
        rw [if_pos (by omega), if_pos (by omega)]
theorem zhd_bs {b : Nat → Nat} {a len : Nat} (h : ∀ i, i < len → b (a + i) < 128) : zhd b a len = zHd (zbs b a len) := by
  rw [zhd_n h len (Nat.le_refl _), zhn_dg, zHd, zHn]
  refine congrArg lN (zdf_ext 8 _ _ ?_)
  intro j hj
  by_cases hl : j < len
  · rw [if_pos hl, zbs_get hl]
  · rw [if_neg hl, zbs_get0 (by omega)]
theorem ztl_bs {b : Nat → Nat} {a len : Nat} (h : ∀ i, i < len → b (a + i) < 128) : ztl b a len = zTl (zbs b a len) := by
  rw [ztl_n h len (Nat.le_refl _), zTl, zTn, ztn]
  refine congrArg nI (zdf_ext 4 _ _ ?_)
  intro j hj
  by_cases hl : 8 + j < len
  · rw [if_pos hl, zbs_get hl]
  · rw [if_neg hl, zbs_get0 (by omega)]
/-- the name of a token -/
def znm (b : Nat → Nat) (n t : Nat) : List Nat := zbs b (zt b n t).2.1 (zt b n t).2.2
theorem zdig_ge {c : Nat} (h : (zlet c || zdig c) = true) : 1 ≤ c := by
  rw [Bool.or_eq_true] at h
  rcases h with h | h
  · have := of_decide_eq_true h; omega
  · have := of_decide_eq_true h; omega
theorem znm_v {b : Nat → Nat} {n t : Nat} (h : (zt b n t).1 = 1 ∨ (zt b n t).1 = 2) : zvn (znm b n t) := by
  obtain ⟨h1, h2, h3, h4, h5, h6, h7⟩ := ztok_name h
  refine ⟨by rw [znm, zbs_len]; exact h1, by rw [znm, zbs_len]; exact h2, fun i hi => ?_⟩
  rw [znm, zbs_len] at hi
  rw [znm, zbs_get hi]
  exact ⟨zdig_ge (h6 i hi), zlet_lt (h6 i hi)⟩
theorem znm_h {b : Nat → Nat} {n t : Nat} (h : (zt b n t).1 = 1 ∨ (zt b n t).1 = 2) : zhd b (zt b n t).2.1 (zt b n t).2.2 = zHd (znm b n t) ∧ ztl b (zt b n t).2.1 (zt b n t).2.2 = zTl (znm b n t) := by
  obtain ⟨h1, h2, h3, h4, h5, h6, h7⟩ := ztok_name h
  exact ⟨zhd_bs (fun i hi => zlet_lt (h6 i hi)), ztl_bs (fun i hi => zlet_lt (h6 i hi))⟩
/-- the first of the first c names that is l -/
def zfn (nm : Nat → List Nat) (l : List Nat) : Nat → Option Nat
  | 0 => none
  | c + 1 => match zfn nm l c with
    | some k => some k
    | none => if nm c = l then some c else none
theorem zfn_some {nm : Nat → List Nat} {l : List Nat} {c k : Nat} (h : zfn nm l c = some k) : ∀ d, zfn nm l (c + d) = some k := by
  intro d
  induction d with
  | zero => exact h
  | succ d ih => show zfn nm l ((c + d) + 1) = _; simp only [zfn, ih]
theorem zfn_at {nm : Nat → List Nat} {l : List Nat} {k c : Nat} (h : zfn nm l k = none) (hk : k < c) (e : nm k = l) : zfn nm l c = some k := by
  have h1 : zfn nm l (k + 1) = some k := by simp only [zfn, h, if_pos e]
  have := zfn_some h1 (c - (k + 1))
  rwa [show k + 1 + (c - (k + 1)) = c by omega] at this
theorem zfn_next {nm : Nat → List Nat} {l : List Nat} {k : Nat} (h : zfn nm l k = none) (e : nm k ≠ l) : zfn nm l (k + 1) = none := by simp only [zfn, h, if_neg e]
theorem zfn_lt {nm : Nat → List Nat} {l : List Nat} : ∀ {c k : Nat}, zfn nm l c = some k → k < c ∧ nm k = l := by
  intro c
  induction c with
  | zero => intro k h; cases h
  | succ c ih =>
    intro k h
    simp only [zfn] at h
    split at h
    · rename_i j hj
      cases h
      have := ih hj
      exact ⟨by omega, this.2⟩
    · split at h
      · rename_i e; cases h; exact ⟨by omega, e⟩
      · cases h
theorem zfn_ext {nm nm' : Nat → List Nat} {l : List Nat} : ∀ c, (∀ k, k < c → nm k = nm' k) → zfn nm l c = zfn nm' l c := by
  intro c
  induction c with
  | zero => intro _; rfl
  | succ c ih => intro h; simp only [zfn]; rw [ih (fun k hk => h k (by omega)), h c (by omega)]
theorem zfn_none {nm : Nat → List Nat} {l : List Nat} : ∀ {c : Nat}, zfn nm l c = none → ∀ k, k < c → nm k ≠ l := by
  intro c
  induction c with
  | zero => intro _ k hk; omega
  | succ c ih =>
    intro h k hk e
    simp only [zfn] at h
    split at h
    · cases h
    · rename_i h1
      split at h
      · cases h
      · rename_i h2
        by_cases hkc : k = c
        · subst hkc; exact h2 e
        · exact ih h1 k (by omega) e
