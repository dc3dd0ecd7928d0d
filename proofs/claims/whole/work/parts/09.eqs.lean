/-! an equation an instruction: what a run from there comes to -/
def zC (E : tE) (o c : Nat) : Prop := o < E.1 ∧ (E.2.2 o).1 = c
theorem tm_sl_len : ∀ vs : List Value, (tm_sl vs).length = tm_wt vs := by
  intro vs
  induction vs with
  | nil => rfl
  | cons v vs ih =>
    have h : tm_sl (v :: vs) = (if v.category = 2 then [some v, none] else [some v]) ++ tm_sl vs := rfl
    have h2 : tm_wt (v :: vs) = v.category + tm_wt vs := rfl
    rw [h, h2, List.length_append, ih]
    have := lv_cat v
    split <;> simp <;> omega
section WE
variable {X : tX} {m pc : Nat} {L : tL} {S : List Value} {E : tE} {I : tI} {J : tJ} {R : tR} {Q : tQ}
theorem we_iconst {n : Int} {v : Int32} (hd : decode (mB m) pc = .ok (.iconst n, 1)) (hv : Int32.ofInt n = v) : wp X m pc L S E I J R Q = wp X m (pc + 1) L (.int v :: S) E I J R Q := by subst hv; rw [wp_stp hd rfl rfl]; rfl
theorem we_bipush {n : Int} {v : Int32} (hd : decode (mB m) pc = .ok (.bipush n, 2)) (hv : (Int8.ofInt n).toInt32 = v) : wp X m pc L S E I J R Q = wp X m (pc + 2) L (.int v :: S) E I J R Q := by subst hv; rw [wp_stp hd rfl rfl]; rfl
theorem we_sipush {n : Int} {v : Int32} (hd : decode (mB m) pc = .ok (.sipush n, 3)) (hv : (Int16.ofInt n).toInt32 = v) : wp X m pc L S E I J R Q = wp X m (pc + 3) L (.int v :: S) E I J R Q := by subst hv; rw [wp_stp hd rfl rfl]; rfl
theorem we_lconst {n : Fin 2} {v : Int64} (hd : decode (mB m) pc = .ok (.lconst n, 1)) (hv : Int64.ofNat (n : Nat) = v) : wp X m pc L S E I J R Q = wp X m (pc + 1) L (.long v :: S) E I J R Q := by subst hv; rw [wp_stp hd rfl rfl]; rfl
theorem we_null (hd : decode (mB m) pc = .ok (.aconst_null, 1)) : wp X m pc L S E I J R Q = wp X m (pc + 1) L (.null :: S) E I J R Q := by rw [wp_stp hd rfl rfl]; rfl
theorem we_ldc {k : Nat} {v : Int32} (hd : decode (mB m) pc = .ok (.ldc k, 2)) (hk : tm_lki tm_ki (mO m) k = some v) : wp X m pc L S E I J R Q = wp X m (pc + 2) L (.int v :: S) E I J R Q := by rw [wp_stp hd rfl rfl]; simp only [tm_stp, if_pos, hk]
theorem we_ldc2 {k : Nat} {v : Int64} (hd : decode (mB m) pc = .ok (.ldc2_w k, 3)) (hk : tm_lkl tm_kl (mO m) k = some v) : wp X m pc L S E I J R Q = wp X m (pc + 3) L (.long v :: S) E I J R Q := by rw [wp_stp hd rfl rfl]; simp only [tm_stp, if_pos, hk]
theorem we_iload_n {k : Fin 4} (hd : decode (mB m) pc = .ok (.iload_n k, 1)) : wp X m pc L S E I J R Q = zli L k (fun x => wp X m (pc + 1) L (.int x :: S) E I J R Q) := by
  rw [wp_stp hd rfl rfl]; simp only [tm_stp, if_pos, zli]; cases tm_lg L (k : Nat) with
  | none => rfl
  | some v => cases v <;> rfl
theorem we_iload {k : Nat} (hd : decode (mB m) pc = .ok (.iload k, 2)) : wp X m pc L S E I J R Q = zli L k (fun x => wp X m (pc + 2) L (.int x :: S) E I J R Q) := by
  rw [wp_stp hd rfl rfl]; simp only [tm_stp, if_pos, zli]; cases tm_lg L k with
  | none => rfl
  | some v => cases v <;> rfl
theorem we_lload_n {k : Fin 4} (hd : decode (mB m) pc = .ok (.lload_n k, 1)) : wp X m pc L S E I J R Q = zll L k (fun x => wp X m (pc + 1) L (.long x :: S) E I J R Q) := by
  rw [wp_stp hd rfl rfl]; simp only [tm_stp, if_pos, zll]; cases tm_lg L (k : Nat) with
  | none => rfl
  | some v => cases v <;> rfl
theorem we_lload {k : Nat} (hd : decode (mB m) pc = .ok (.lload k, 2)) : wp X m pc L S E I J R Q = zll L k (fun x => wp X m (pc + 2) L (.long x :: S) E I J R Q) := by
  rw [wp_stp hd rfl rfl]; simp only [tm_stp, if_pos, zll]; cases tm_lg L k with
  | none => rfl
  | some v => cases v <;> rfl
theorem we_aload_n {k : Fin 4} (hd : decode (mB m) pc = .ok (.aload_n k, 1)) : wp X m pc L S E I J R Q = zla L k (fun x => wp X m (pc + 1) L (x :: S) E I J R Q) := by
  rw [wp_stp hd rfl rfl]; simp only [tm_stp, if_pos, zla]; cases tm_lg L (k : Nat) with
  | none => rfl
  | some v => cases v <;> rfl
theorem we_aload {k : Nat} (hd : decode (mB m) pc = .ok (.aload k, 2)) : wp X m pc L S E I J R Q = zla L k (fun x => wp X m (pc + 2) L (x :: S) E I J R Q) := by
  rw [wp_stp hd rfl rfl]; simp only [tm_stp, if_pos, zla]; cases tm_lg L k with
  | none => rfl
  | some v => cases v <;> rfl
theorem we_istore_n {k : Fin 4} {x : Int32} (hd : decode (mB m) pc = .ok (.istore_n k, 1)) : wp X m pc L (.int x :: S) E I J R Q = zst L k (.int x) (fun L => wp X m (pc + 1) L S E I J R Q) := by
  rw [wp_stp hd rfl rfl]; simp only [tm_stp, zst, true_and]
  by_cases h : (k : Nat) < L.length <;> simp [h]
theorem we_istore {k : Nat} {x : Int32} (hd : decode (mB m) pc = .ok (.istore k, 2)) : wp X m pc L (.int x :: S) E I J R Q = zst L k (.int x) (fun L => wp X m (pc + 2) L S E I J R Q) := by
  rw [wp_stp hd rfl rfl]; simp only [tm_stp, zst, true_and]
  by_cases h : k < L.length <;> simp [h]
theorem we_lstore_n {k : Fin 4} {x : Int64} (hd : decode (mB m) pc = .ok (.lstore_n k, 1)) : wp X m pc L (.long x :: S) E I J R Q = zst2 L k (.long x) (fun L => wp X m (pc + 1) L S E I J R Q) := by
  rw [wp_stp hd rfl rfl]; simp only [tm_stp, zst2, true_and]
  by_cases h : (k : Nat) + 1 < L.length <;> simp [h]
theorem we_lstore {k : Nat} {x : Int64} (hd : decode (mB m) pc = .ok (.lstore k, 2)) : wp X m pc L (.long x :: S) E I J R Q = zst2 L k (.long x) (fun L => wp X m (pc + 2) L S E I J R Q) := by
  rw [wp_stp hd rfl rfl]; simp only [tm_stp, zst2, true_and]
  by_cases h : k + 1 < L.length <;> simp [h]
theorem we_astore_n {k : Fin 4} {r : Option Nat} (hd : decode (mB m) pc = .ok (.astore_n k, 1)) : wp X m pc L (tm_rv r :: S) E I J R Q = zst L k (tm_rv r) (fun L => wp X m (pc + 1) L S E I J R Q) := by
  rw [wp_stp hd rfl rfl]; cases r <;> simp only [tm_stp, zst, true_and, tm_rv] <;> by_cases h : (k : Nat) < L.length <;> simp [h]
theorem we_astore {k : Nat} {r : Option Nat} (hd : decode (mB m) pc = .ok (.astore k, 2)) : wp X m pc L (tm_rv r :: S) E I J R Q = zst L k (tm_rv r) (fun L => wp X m (pc + 2) L S E I J R Q) := by
  rw [wp_stp hd rfl rfl]; cases r <;> simp only [tm_stp, zst, true_and, tm_rv] <;> by_cases h : k < L.length <;> simp [h]
theorem we_iinc {k : Nat} {n : Int} {v : Int32} (hd : decode (mB m) pc = .ok (.iinc k n, 3)) (hv : Int32.ofInt n = v) : wp X m pc L S E I J R Q = zli L k (fun x => zst L k (.int (x + v)) (fun L => wp X m (pc + 3) L S E I J R Q)) := by
  subst hv
  rw [wp_stp hd rfl rfl]; simp only [tm_stp, zst, zli, true_and]
  by_cases h : k < L.length
  · simp only [h, if_pos, true_and]
    cases tm_lg L k with
    | none => rfl
    | some v => cases v <;> rfl
  · simp only [h, if_false, false_and]
    cases tm_lg L k with
    | none => rfl
    | some v => cases v <;> rfl
theorem we_iadd {x : Int32} {y : Int32} (hd : decode (mB m) pc = .ok (.iadd, 1)) : wp X m pc L (.int y :: .int x :: S) E I J R Q = wp X m (pc + 1) L (.int (x + y) :: S) E I J R Q := by rw [wp_stp hd rfl rfl]; rfl
theorem we_isub {x : Int32} {y : Int32} (hd : decode (mB m) pc = .ok (.isub, 1)) : wp X m pc L (.int y :: .int x :: S) E I J R Q = wp X m (pc + 1) L (.int (x - y) :: S) E I J R Q := by rw [wp_stp hd rfl rfl]; rfl
theorem we_imul {x : Int32} {y : Int32} (hd : decode (mB m) pc = .ok (.imul, 1)) : wp X m pc L (.int y :: .int x :: S) E I J R Q = wp X m (pc + 1) L (.int (x * y) :: S) E I J R Q := by rw [wp_stp hd rfl rfl]; rfl
theorem we_iand {x : Int32} {y : Int32} (hd : decode (mB m) pc = .ok (.iand, 1)) : wp X m pc L (.int y :: .int x :: S) E I J R Q = wp X m (pc + 1) L (.int (x &&& y) :: S) E I J R Q := by rw [wp_stp hd rfl rfl]; rfl
theorem we_ior {x : Int32} {y : Int32} (hd : decode (mB m) pc = .ok (.ior, 1)) : wp X m pc L (.int y :: .int x :: S) E I J R Q = wp X m (pc + 1) L (.int (x ||| y) :: S) E I J R Q := by rw [wp_stp hd rfl rfl]; rfl
theorem we_ishl {x : Int32} {y : Int32} (hd : decode (mB m) pc = .ok (.ishl, 1)) : wp X m pc L (.int y :: .int x :: S) E I J R Q = wp X m (pc + 1) L (.int (x <<< (y &&& 31)) :: S) E I J R Q := by rw [wp_stp hd rfl rfl]; rfl
theorem we_ishr {x : Int32} {y : Int32} (hd : decode (mB m) pc = .ok (.ishr, 1)) : wp X m pc L (.int y :: .int x :: S) E I J R Q = wp X m (pc + 1) L (.int (x >>> (y &&& 31)) :: S) E I J R Q := by rw [wp_stp hd rfl rfl]; rfl
theorem we_iushr {x : Int32} {y : Int32} (hd : decode (mB m) pc = .ok (.iushr, 1)) : wp X m pc L (.int y :: .int x :: S) E I J R Q = wp X m (pc + 1) L (.int ((x.toUInt32 >>> (y.toUInt32 &&& Int32.toUInt32 31)).toInt32) :: S) E I J R Q := by rw [wp_stp hd rfl rfl]; rfl
theorem we_land {x : Int64} {y : Int64} (hd : decode (mB m) pc = .ok (.land, 1)) : wp X m pc L (.long y :: .long x :: S) E I J R Q = wp X m (pc + 1) L (.long (x &&& y) :: S) E I J R Q := by rw [wp_stp hd rfl rfl]; rfl
theorem we_lor {x : Int64} {y : Int64} (hd : decode (mB m) pc = .ok (.lor, 1)) : wp X m pc L (.long y :: .long x :: S) E I J R Q = wp X m (pc + 1) L (.long (x ||| y) :: S) E I J R Q := by rw [wp_stp hd rfl rfl]; rfl
theorem we_lshl {x : Int64} {y : Int32} (hd : decode (mB m) pc = .ok (.lshl, 1)) : wp X m pc L (.int y :: .long x :: S) E I J R Q = wp X m (pc + 1) L (.long (x <<< (y.toInt64 &&& 63)) :: S) E I J R Q := by rw [wp_stp hd rfl rfl]; rfl
theorem we_lushr {x : Int64} {y : Int32} (hd : decode (mB m) pc = .ok (.lushr, 1)) : wp X m pc L (.int y :: .long x :: S) E I J R Q = wp X m (pc + 1) L (.long ((x.toUInt64 >>> (y.toInt64.toUInt64 &&& Int64.toUInt64 63)).toInt64) :: S) E I J R Q := by rw [wp_stp hd rfl rfl]; rfl
theorem we_lcmp {x : Int64} {y : Int64} (hd : decode (mB m) pc = .ok (.lcmp, 1)) : wp X m pc L (.long y :: .long x :: S) E I J R Q = wp X m (pc + 1) L (.int (lg_cmp x y) :: S) E I J R Q := by rw [wp_stp hd rfl rfl]; rfl
theorem we_idiv {x y : Int32} (hd : decode (mB m) pc = .ok (.idiv, 1)) : wp X m pc L (.int y :: .int x :: S) E I J R Q = (¬ y = 0 ∧ wp X m (pc + 1) L (.int (x / y) :: S) E I J R Q) := by
  rw [wp_stp hd rfl rfl]; simp only [tm_stp, if_pos]; by_cases h : y = 0 <;> simp [h]
theorem we_irem {x y : Int32} (hd : decode (mB m) pc = .ok (.irem, 1)) : wp X m pc L (.int y :: .int x :: S) E I J R Q = (¬ y = 0 ∧ wp X m (pc + 1) L (.int (x - x / y * y) :: S) E I J R Q) := by
  rw [wp_stp hd rfl rfl]; simp only [tm_stp, if_pos]; by_cases h : y = 0 <;> simp [h]
theorem we_i2l {x : Int32} (hd : decode (mB m) pc = .ok (.i2l, 1)) : wp X m pc L (.int x :: S) E I J R Q = wp X m (pc + 1) L (.long x.toInt64 :: S) E I J R Q := by rw [wp_stp hd rfl rfl]; rfl
theorem we_l2i {x : Int64} (hd : decode (mB m) pc = .ok (.l2i, 1)) : wp X m pc L (.long x :: S) E I J R Q = wp X m (pc + 1) L (.int x.toInt32 :: S) E I J R Q := by rw [wp_stp hd rfl rfl]; rfl
theorem we_i2b {x : Int32} (hd : decode (mB m) pc = .ok (.i2b, 1)) : wp X m pc L (.int x :: S) E I J R Q = wp X m (pc + 1) L (.int x.toInt8.toInt32 :: S) E I J R Q := by rw [wp_stp hd rfl rfl]; rfl
theorem we_dup {v : Value} (hd : decode (mB m) pc = .ok (.dup, 1)) : wp X m pc L (v :: S) E I J R Q = (v.category = 1 ∧ wp X m (pc + 1) L (v :: v :: S) E I J R Q) := by
  rw [wp_stp hd rfl rfl]; simp only [tm_stp, if_pos]; by_cases h : v.category = 1 <;> simp [h]
theorem we_pop {v : Value} (hd : decode (mB m) pc = .ok (.pop, 1)) : wp X m pc L (v :: S) E I J R Q = (v.category = 1 ∧ wp X m (pc + 1) L S E I J R Q) := by
  rw [wp_stp hd rfl rfl]; simp only [tm_stp, if_pos]; by_cases h : v.category = 1 <;> simp [h]
theorem we_dup_x1 {v w : Value} (hd : decode (mB m) pc = .ok (.dup_x1, 1)) : wp X m pc L (v :: w :: S) E I J R Q = ((v.category = 1 ∧ w.category = 1) ∧ wp X m (pc + 1) L (v :: w :: v :: S) E I J R Q) := by
  rw [wp_stp hd rfl rfl]; simp only [tm_stp, if_pos]; by_cases h : v.category = 1 ∧ w.category = 1 <;> simp [h]
theorem we_dup_x2 {v w z : Value} (hd : decode (mB m) pc = .ok (.dup_x2, 1)) : wp X m pc L (v :: w :: z :: S) E I J R Q = ((v.category = 1 ∧ w.category = 1 ∧ z.category = 1) ∧ wp X m (pc + 1) L (v :: w :: z :: v :: S) E I J R Q) := by
  rw [wp_stp hd rfl rfl]; simp only [tm_stp, if_pos]; by_cases h : v.category = 1 ∧ w.category = 1 ∧ z.category = 1 <;> simp [h]
theorem we_dup2 {v w : Value} (hd : decode (mB m) pc = .ok (.dup2, 1)) : wp X m pc L (v :: w :: S) E I J R Q = ((v.category = 1 ∧ w.category = 1) ∧ wp X m (pc + 1) L (v :: w :: v :: w :: S) E I J R Q) := by
  rw [wp_stp hd rfl rfl]; simp only [tm_stp, if_pos]; by_cases h : v.category = 1 ∧ w.category = 1 <;> simp [h]
theorem we_jmp {off : Int} {t : Nat} {M : tM} (ht : (pc : Int) + off = (t : Int)) : tm_jmp pc off L S M = some (t, L, S, M) := by
  unfold tm_jmp
  rw [if_pos (by omega), ht]
  rfl
theorem we_goto {off : Int} {t : Nat} (hd : decode (mB m) pc = .ok (.goto off, 3)) (ht : (pc : Int) + off = (t : Int)) : wp X m pc L S E I J R Q = wp X m t L S E I J R Q := by
  rw [wp_stp hd rfl rfl]; simp only [tm_stp, if_pos, we_jmp ht]
theorem we_ifnull_r {off : Int} {a : Nat} (hd : decode (mB m) pc = .ok (.ifnull off, 3)) : wp X m pc L (.ref a :: S) E I J R Q = wp X m (pc + 3) L S E I J R Q := by
  rw [wp_stp hd rfl rfl]; rfl
theorem we_ifnull_n {off : Int} {t : Nat} (hd : decode (mB m) pc = .ok (.ifnull off, 3)) (ht : (pc : Int) + off = (t : Int)) : wp X m pc L (.null :: S) E I J R Q = wp X m t L S E I J R Q := by
  rw [wp_stp hd rfl rfl]; simp only [tm_stp, if_pos, we_jmp ht]
theorem we_ifnonnull_r {off : Int} {t a : Nat} (hd : decode (mB m) pc = .ok (.ifnonnull off, 3)) (ht : (pc : Int) + off = (t : Int)) : wp X m pc L (.ref a :: S) E I J R Q = wp X m t L S E I J R Q := by
  rw [wp_stp hd rfl rfl]; simp only [tm_stp, if_pos, we_jmp ht]
theorem we_ifnonnull_n {off : Int} (hd : decode (mB m) pc = .ok (.ifnonnull off, 3)) : wp X m pc L (.null :: S) E I J R Q = wp X m (pc + 3) L S E I J R Q := by
  rw [wp_stp hd rfl rfl]; rfl
theorem we_if_eq {off : Int} {t : Nat} {x : Int32} (hd : decode (mB m) pc = .ok (.ifCond .eq off, 3)) (ht : (pc : Int) + off = (t : Int)) : wp X m pc L (.int x :: S) E I J R Q = ((x = 0 → wp X m t L S E I J R Q) ∧ (¬ x = 0 → wp X m (pc + 3) L S E I J R Q)) := by
  rw [wp_stp hd rfl rfl]; simp only [tm_stp, if_pos, tm_cmp, decide_eq_true_eq, we_jmp ht]
  have h0 : 0 ≤ (pc : Int) + off := by omega
  by_cases h : x = 0 <;> simp [h, h0]
theorem we_ic_eq {off : Int} {t : Nat} {x y : Int32} (hd : decode (mB m) pc = .ok (.if_icmp .eq off, 3)) (ht : (pc : Int) + off = (t : Int)) : wp X m pc L (.int y :: .int x :: S) E I J R Q = ((x = y → wp X m t L S E I J R Q) ∧ (¬ x = y → wp X m (pc + 3) L S E I J R Q)) := by
  rw [wp_stp hd rfl rfl]; simp only [tm_stp, if_pos, tm_cmp, decide_eq_true_eq, we_jmp ht]
  have h0 : 0 ≤ (pc : Int) + off := by omega
  by_cases h : x = y <;> simp [h, h0]
theorem we_if_ne {off : Int} {t : Nat} {x : Int32} (hd : decode (mB m) pc = .ok (.ifCond .ne off, 3)) (ht : (pc : Int) + off = (t : Int)) : wp X m pc L (.int x :: S) E I J R Q = ((x = 0 → wp X m (pc + 3) L S E I J R Q) ∧ (¬ x = 0 → wp X m t L S E I J R Q)) := by
  rw [wp_stp hd rfl rfl]; simp only [tm_stp, if_pos, tm_cmp, decide_eq_true_eq, we_jmp ht]
  have h0 : 0 ≤ (pc : Int) + off := by omega
  by_cases h : x = 0 <;> simp [h, h0]
theorem we_ic_ne {off : Int} {t : Nat} {x y : Int32} (hd : decode (mB m) pc = .ok (.if_icmp .ne off, 3)) (ht : (pc : Int) + off = (t : Int)) : wp X m pc L (.int y :: .int x :: S) E I J R Q = ((x = y → wp X m (pc + 3) L S E I J R Q) ∧ (¬ x = y → wp X m t L S E I J R Q)) := by
  rw [wp_stp hd rfl rfl]; simp only [tm_stp, if_pos, tm_cmp, decide_eq_true_eq, we_jmp ht]
  have h0 : 0 ≤ (pc : Int) + off := by omega
  by_cases h : x = y <;> simp [h, h0]
theorem we_if_lt {off : Int} {t : Nat} {x : Int32} (hd : decode (mB m) pc = .ok (.ifCond .lt off, 3)) (ht : (pc : Int) + off = (t : Int)) : wp X m pc L (.int x :: S) E I J R Q = ((x < 0 → wp X m t L S E I J R Q) ∧ (¬ x < 0 → wp X m (pc + 3) L S E I J R Q)) := by
  rw [wp_stp hd rfl rfl]; simp only [tm_stp, if_pos, tm_cmp, decide_eq_true_eq, we_jmp ht]
  have h0 : 0 ≤ (pc : Int) + off := by omega
  by_cases h : x < 0 <;> simp [h, h0]
theorem we_ic_lt {off : Int} {t : Nat} {x y : Int32} (hd : decode (mB m) pc = .ok (.if_icmp .lt off, 3)) (ht : (pc : Int) + off = (t : Int)) : wp X m pc L (.int y :: .int x :: S) E I J R Q = ((x < y → wp X m t L S E I J R Q) ∧ (¬ x < y → wp X m (pc + 3) L S E I J R Q)) := by
  rw [wp_stp hd rfl rfl]; simp only [tm_stp, if_pos, tm_cmp, decide_eq_true_eq, we_jmp ht]
  have h0 : 0 ≤ (pc : Int) + off := by omega
  by_cases h : x < y <;> simp [h, h0]
theorem we_if_ge {off : Int} {t : Nat} {x : Int32} (hd : decode (mB m) pc = .ok (.ifCond .ge off, 3)) (ht : (pc : Int) + off = (t : Int)) : wp X m pc L (.int x :: S) E I J R Q = ((0 ≤ x → wp X m t L S E I J R Q) ∧ (¬ 0 ≤ x → wp X m (pc + 3) L S E I J R Q)) := by
  rw [wp_stp hd rfl rfl]; simp only [tm_stp, if_pos, tm_cmp, decide_eq_true_eq, we_jmp ht]
  have h0 : 0 ≤ (pc : Int) + off := by omega
  by_cases h : 0 ≤ x <;> simp [h, h0]
theorem we_ic_ge {off : Int} {t : Nat} {x y : Int32} (hd : decode (mB m) pc = .ok (.if_icmp .ge off, 3)) (ht : (pc : Int) + off = (t : Int)) : wp X m pc L (.int y :: .int x :: S) E I J R Q = ((y ≤ x → wp X m t L S E I J R Q) ∧ (¬ y ≤ x → wp X m (pc + 3) L S E I J R Q)) := by
  rw [wp_stp hd rfl rfl]; simp only [tm_stp, if_pos, tm_cmp, decide_eq_true_eq, we_jmp ht]
  have h0 : 0 ≤ (pc : Int) + off := by omega
  by_cases h : y ≤ x <;> simp [h, h0]
theorem we_if_gt {off : Int} {t : Nat} {x : Int32} (hd : decode (mB m) pc = .ok (.ifCond .gt off, 3)) (ht : (pc : Int) + off = (t : Int)) : wp X m pc L (.int x :: S) E I J R Q = ((0 < x → wp X m t L S E I J R Q) ∧ (¬ 0 < x → wp X m (pc + 3) L S E I J R Q)) := by
  rw [wp_stp hd rfl rfl]; simp only [tm_stp, if_pos, tm_cmp, decide_eq_true_eq, we_jmp ht]
  have h0 : 0 ≤ (pc : Int) + off := by omega
  by_cases h : 0 < x <;> simp [h, h0]
theorem we_ic_gt {off : Int} {t : Nat} {x y : Int32} (hd : decode (mB m) pc = .ok (.if_icmp .gt off, 3)) (ht : (pc : Int) + off = (t : Int)) : wp X m pc L (.int y :: .int x :: S) E I J R Q = ((y < x → wp X m t L S E I J R Q) ∧ (¬ y < x → wp X m (pc + 3) L S E I J R Q)) := by
  rw [wp_stp hd rfl rfl]; simp only [tm_stp, if_pos, tm_cmp, decide_eq_true_eq, we_jmp ht]
  have h0 : 0 ≤ (pc : Int) + off := by omega
  by_cases h : y < x <;> simp [h, h0]
theorem we_if_le {off : Int} {t : Nat} {x : Int32} (hd : decode (mB m) pc = .ok (.ifCond .le off, 3)) (ht : (pc : Int) + off = (t : Int)) : wp X m pc L (.int x :: S) E I J R Q = ((x ≤ 0 → wp X m t L S E I J R Q) ∧ (¬ x ≤ 0 → wp X m (pc + 3) L S E I J R Q)) := by
  rw [wp_stp hd rfl rfl]; simp only [tm_stp, if_pos, tm_cmp, decide_eq_true_eq, we_jmp ht]
  have h0 : 0 ≤ (pc : Int) + off := by omega
  by_cases h : x ≤ 0 <;> simp [h, h0]
theorem we_ic_le {off : Int} {t : Nat} {x y : Int32} (hd : decode (mB m) pc = .ok (.if_icmp .le off, 3)) (ht : (pc : Int) + off = (t : Int)) : wp X m pc L (.int y :: .int x :: S) E I J R Q = ((x ≤ y → wp X m t L S E I J R Q) ∧ (¬ x ≤ y → wp X m (pc + 3) L S E I J R Q)) := by
  rw [wp_stp hd rfl rfl]; simp only [tm_stp, if_pos, tm_cmp, decide_eq_true_eq, we_jmp ht]
  have h0 : 0 ≤ (pc : Int) + off := by omega
  by_cases h : x ≤ y <;> simp [h, h0]
theorem we_tsw {d lo hi : Int} {offs : Array Int} {len : Nat} {x : Int32} (hd : decode (mB m) pc = .ok (.tableswitch d lo hi offs, len)) : wp X m pc L (.int x :: S) E I J R Q = (match (if x.toInt < lo ∨ hi < x.toInt then some d else offs[(x.toInt - lo).toNat]?) with
    | none => False
    | some off => 0 ≤ (pc : Int) + off ∧ wp X m ((pc : Int) + off).toNat L S E I J R Q) := by
  rw [wp_stp hd rfl rfl]; simp only [tm_stp]
  by_cases h : x.toInt < lo ∨ hi < x.toInt
  · simp only [h, if_pos, tm_jmp]
    by_cases h2 : 0 ≤ (pc : Int) + d <;> simp [h2]
  · simp only [h, if_false]
    cases offs[(x.toInt - lo).toNat]? with
    | none => rfl
    | some off =>
      simp only [tm_jmp]
      by_cases h2 : 0 ≤ (pc : Int) + off <;> simp [h2]
theorem we_lsw {d : Int} {ps : Array (Int × Int)} {len : Nat} {x : Int32} (hd : decode (mB m) pc = .ok (.lookupswitch d ps, len)) (hp : (ps.toList.zip (ps.toList.drop 1)).all (fun (a, next) => a.1 < next.1) = true) : wp X m pc L (.int x :: S) E I J R Q = (0 ≤ (pc : Int) + Op.lookupswitch.offset ps.toList d x.toInt ∧ wp X m ((pc : Int) + Op.lookupswitch.offset ps.toList d x.toInt).toNat L S E I J R Q) := by
  rw [wp_stp hd rfl rfl]; simp only [tm_stp, hp, if_pos, tm_jmp]
  by_cases h2 : 0 ≤ (pc : Int) + Op.lookupswitch.offset ps.toList d x.toInt <;> simp [h2]
theorem we_get {k c j o : Nat} (hd : decode (mB m) pc = .ok (.getfield k, 3)) (hl : tm_lk tm_fl (mO m) k = some (c, j)) (hc : c < 100) : wp X m pc L (.ref o :: S) E I J R Q = (zF E o c j ∧ wp X m (pc + 3) L (tm_pv (tm_ft c j) (I o j) (J o j) (R o j) :: S) E I J R Q) := by
  rw [wp_stp hd rfl rfl]; simp only [tm_stp, if_pos, hl, hc, true_and, zF]
  by_cases h : o < E.1 ∧ (E.2.2 o).1 = c ∧ j < (E.2.2 o).2 <;> simp [h]
theorem we_getI {k c j o : Nat} (hd : decode (mB m) pc = .ok (.getfield k, 3)) (hl : tm_lk tm_fl (mO m) k = some (c, j)) (hc : c < 100) (ht : tm_ft c j = 0) : wp X m pc L (.ref o :: S) E I J R Q = (zF E o c j ∧ wp X m (pc + 3) L (.int (I o j) :: S) E I J R Q) := by
  rw [we_get hd hl hc, ht]; rfl
theorem we_getJ {k c j o : Nat} (hd : decode (mB m) pc = .ok (.getfield k, 3)) (hl : tm_lk tm_fl (mO m) k = some (c, j)) (hc : c < 100) (ht : tm_ft c j = 1) : wp X m pc L (.ref o :: S) E I J R Q = (zF E o c j ∧ wp X m (pc + 3) L (.long (J o j) :: S) E I J R Q) := by
  rw [we_get hd hl hc, ht]; rfl
theorem we_getR {k c j o : Nat} (hd : decode (mB m) pc = .ok (.getfield k, 3)) (hl : tm_lk tm_fl (mO m) k = some (c, j)) (hc : c < 100) (ht : tm_ft c j = 2) : wp X m pc L (.ref o :: S) E I J R Q = (zF E o c j ∧ wp X m (pc + 3) L (tm_rv (R o j) :: S) E I J R Q) := by
  rw [we_get hd hl hc, ht]; rfl
theorem we_put {k c j o : Nat} {v : Value} (hd : decode (mB m) pc = .ok (.putfield k, 3)) (hl : tm_lk tm_fl (mO m) k = some (c, j)) (hc : c < 100) (hf : tm_fin c j = true → mK m = 2 ∧ mO m = c) : wp X m pc L (v :: .ref o :: S) E I J R Q = (tm_okv (tm_ty c j) v = true ∧ zF E o c j ∧ wp X m (pc + 3) L S (tm_put (E, I, J, R) o j v).1 (tm_put (E, I, J, R) o j v).2.1 (tm_put (E, I, J, R) o j v).2.2.1 (tm_put (E, I, J, R) o j v).2.2.2 Q) := by
  rw [wp_stp hd rfl rfl]; simp only [tm_stp, if_pos, hl, hc, true_and, zF]
  by_cases h : o < E.1 ∧ (E.2.2 o).1 = c ∧ j < (E.2.2 o).2
  · obtain ⟨h1, h2, h3⟩ := h
    by_cases h4 : tm_okv (tm_ty c j) v = true
    · rw [if_pos ⟨h1, h2, h3, h4, hf⟩]
      simp [h1, h2, h3, h4]
    · rw [if_neg (fun q => h4 q.2.2.2.1)]
      simp [h4]
  · rw [if_neg (fun q => h ⟨q.1, q.2.1, q.2.2.1⟩)]
    simp [h]
theorem we_putI {k c j o : Nat} {x : Int32} (hd : decode (mB m) pc = .ok (.putfield k, 3)) (hl : tm_lk tm_fl (mO m) k = some (c, j)) (hc : c < 100) (hf : tm_fin c j = true → mK m = 2 ∧ mO m = c) (ht : tm_ty c j = .int) : wp X m pc L (.int x :: .ref o :: S) E I J R Q = (zF E o c j ∧ wp X m (pc + 3) L S E (va_up I o (va_up (I o) j x)) J R Q) := by
  rw [we_put hd hl hc hf, ht]; simp [tm_okv, tm_put]
theorem we_putZ {k c j o : Nat} {x : Int32} (hd : decode (mB m) pc = .ok (.putfield k, 3)) (hl : tm_lk tm_fl (mO m) k = some (c, j)) (hc : c < 100) (hf : tm_fin c j = true → mK m = 2 ∧ mO m = c) (ht : tm_ty c j = .boolean) : wp X m pc L (.int x :: .ref o :: S) E I J R Q = ((x = 0 ∨ x = 1) ∧ zF E o c j ∧ wp X m (pc + 3) L S E (va_up I o (va_up (I o) j x)) J R Q) := by
  rw [we_put hd hl hc hf, ht]; simp [tm_okv, tm_put]
theorem we_putJ {k c j o : Nat} {x : Int64} (hd : decode (mB m) pc = .ok (.putfield k, 3)) (hl : tm_lk tm_fl (mO m) k = some (c, j)) (hc : c < 100) (hf : tm_fin c j = true → mK m = 2 ∧ mO m = c) (ht : tm_ty c j = .long) : wp X m pc L (.long x :: .ref o :: S) E I J R Q = (zF E o c j ∧ wp X m (pc + 3) L S E I (va_up J o (va_up (J o) j x)) R Q) := by
  rw [we_put hd hl hc hf, ht]; simp [tm_okv, tm_put]
theorem we_putR {k c j o : Nat} {r : Option Nat} (hd : decode (mB m) pc = .ok (.putfield k, 3)) (hl : tm_lk tm_fl (mO m) k = some (c, j)) (hc : c < 100) (hf : tm_fin c j = true → mK m = 2 ∧ mO m = c) (ht : tm_ft c j = 2) : wp X m pc L (tm_rv r :: .ref o :: S) E I J R Q = (zF E o c j ∧ wp X m (pc + 3) L S E I J (va_up R o (va_up (R o) j r)) Q) := by
  have h : tm_okv (tm_ty c j) (tm_rv r) = true := by
    unfold tm_ft at ht
    split at ht
    · cases ht
    · rename_i h1; rw [h1]; cases r <;> rfl
    · rename_i h1; rw [h1]; cases r <;> rfl
    · cases ht
  rw [we_put hd hl hc hf]; cases r <;> simp [h, tm_put, tm_rv] at h ⊢ <;> simp [h]
theorem we_putRr {k c j o a : Nat} (hd : decode (mB m) pc = .ok (.putfield k, 3)) (hl : tm_lk tm_fl (mO m) k = some (c, j)) (hc : c < 100) (hf : tm_fin c j = true → mK m = 2 ∧ mO m = c) (ht : tm_ft c j = 2) : wp X m pc L (.ref a :: .ref o :: S) E I J R Q = (zF E o c j ∧ wp X m (pc + 3) L S E I J (va_up R o (va_up (R o) j (some a))) Q) := we_putR (r := some a) hd hl hc hf ht
theorem we_iaload {o : Nat} {i : Int32} (hd : decode (mB m) pc = .ok (.iaload, 1)) : wp X m pc L (.int i :: .ref o :: S) E I J R Q = (zA E o 100 i ∧ wp X m (pc + 1) L (.int (I o i.toNatClampNeg) :: S) E I J R Q) := by
  rw [wp_stp hd rfl rfl]; simp only [tm_stp, if_pos, zA]
  by_cases h : o < E.1 ∧ (E.2.2 o).1 = 100 ∧ tm_out i (E.2.2 o).2 = false <;> simp [h]
theorem we_laload {o : Nat} {i : Int32} (hd : decode (mB m) pc = .ok (.laload, 1)) : wp X m pc L (.int i :: .ref o :: S) E I J R Q = (zA E o 103 i ∧ wp X m (pc + 1) L (.long (J o i.toNatClampNeg) :: S) E I J R Q) := by
  rw [wp_stp hd rfl rfl]; simp only [tm_stp, if_pos, zA]
  by_cases h : o < E.1 ∧ (E.2.2 o).1 = 103 ∧ tm_out i (E.2.2 o).2 = false <;> simp [h]
theorem we_aaload {o : Nat} {i : Int32} (hd : decode (mB m) pc = .ok (.aaload, 1)) : wp X m pc L (.int i :: .ref o :: S) E I J R Q = (zA E o 104 i ∧ wp X m (pc + 1) L (tm_rv (R o i.toNatClampNeg) :: S) E I J R Q) := by
  rw [wp_stp hd rfl rfl]; simp only [tm_stp, if_pos, zA]
  by_cases h : o < E.1 ∧ (E.2.2 o).1 = 104 ∧ tm_out i (E.2.2 o).2 = false <;> simp [h]
theorem we_ialoadX {o : Nat} {i : Int32} (hd : decode (mB m) pc = .ok (.iaload, 1)) : wp X m pc L (.int i :: .retAddr o :: S) E I J R Q = (tm_out i X.1 = false ∧ wp X m (pc + 1) L (.int (X.2 i.toNatClampNeg) :: S) E I J R Q) := by
  rw [wp_stp hd rfl rfl]; simp only [tm_stp, if_pos]
  by_cases h : tm_out i X.1 = false <;> simp [h]
theorem we_baload {o : Nat} {i : Int32} (hd : decode (mB m) pc = .ok (.baload, 1)) : wp X m pc L (.int i :: .ref o :: S) E I J R Q = ((zA E o 101 i ∨ zA E o 102 i) ∧ wp X m (pc + 1) L (.int (I o i.toNatClampNeg) :: S) E I J R Q) := by
  rw [wp_stp hd rfl rfl]; simp only [tm_stp, if_pos, zA]
  by_cases h : o < E.1 ∧ ((E.2.2 o).1 = 101 ∨ (E.2.2 o).1 = 102) ∧ tm_out i (E.2.2 o).2 = false
  · rw [if_pos h]
    obtain ⟨h1, h2 | h2, h3⟩ := h <;> simp [h1, h2, h3]
  · rw [if_neg h]
    simp only [eq_iff_iff, false_iff, not_and]
    rintro (⟨h1, h2, h3⟩ | ⟨h1, h2, h3⟩)
    · exact absurd ⟨h1, Or.inl h2, h3⟩ h
    · exact absurd ⟨h1, Or.inr h2, h3⟩ h
theorem we_iastore {o : Nat} {i x : Int32} (hd : decode (mB m) pc = .ok (.iastore, 1)) : wp X m pc L (.int x :: .int i :: .ref o :: S) E I J R Q = (zA E o 100 i ∧ wp X m (pc + 1) L S E (va_up I o (va_up (I o) i.toNatClampNeg x)) J R Q) := by
  rw [wp_stp hd rfl rfl]; simp only [tm_stp, if_pos, zA]
  by_cases h : o < E.1 ∧ (E.2.2 o).1 = 100 ∧ tm_out i (E.2.2 o).2 = false <;> simp [h, tm_put]
theorem we_lastore {o : Nat} {i : Int32} {x : Int64} (hd : decode (mB m) pc = .ok (.lastore, 1)) : wp X m pc L (.long x :: .int i :: .ref o :: S) E I J R Q = (zA E o 103 i ∧ wp X m (pc + 1) L S E I (va_up J o (va_up (J o) i.toNatClampNeg x)) R Q) := by
  rw [wp_stp hd rfl rfl]; simp only [tm_stp, if_pos, zA]
  by_cases h : o < E.1 ∧ (E.2.2 o).1 = 103 ∧ tm_out i (E.2.2 o).2 = false <;> simp [h, tm_put]
theorem we_bastore {o : Nat} {i x : Int32} (hd : decode (mB m) pc = .ok (.bastore, 1)) : wp X m pc L (.int x :: .int i :: .ref o :: S) E I J R Q = ((zA E o 101 i ∧ wp X m (pc + 1) L S E (va_up I o (va_up (I o) i.toNatClampNeg (vp_nar .byte x))) J R Q) ∨ (zA E o 102 i ∧ wp X m (pc + 1) L S E (va_up I o (va_up (I o) i.toNatClampNeg (vp_nar .boolean x))) J R Q)) := by
  rw [wp_stp hd rfl rfl]; simp only [tm_stp, if_pos, zA]
  by_cases h : o < E.1 ∧ (E.2.2 o).1 = 101 ∧ tm_out i (E.2.2 o).2 = false
  · simp [h, tm_put]
  · by_cases h2 : o < E.1 ∧ (E.2.2 o).1 = 102 ∧ tm_out i (E.2.2 o).2 = false
    · simp [h2, tm_put]
    · simp [h, h2]
theorem we_aastore {o v : Nat} {i : Int32} (hd : decode (mB m) pc = .ok (.aastore, 1)) : wp X m pc L (.ref v :: .int i :: .ref o :: S) E I J R Q = ((zA E o 104 i ∧ zC E v 4) ∧ wp X m (pc + 1) L S E I J (va_up R o (va_up (R o) i.toNatClampNeg (some v))) Q) := by
  rw [wp_stp hd rfl rfl]; simp only [tm_stp, if_pos, zA, zC]
  by_cases h : o < E.1 ∧ (E.2.2 o).1 = 104 ∧ tm_out i (E.2.2 o).2 = false ∧ v < E.1 ∧ (E.2.2 v).1 = 4
  · simp [h, tm_put]
  · rw [if_neg h]
    simp only [eq_iff_iff, false_iff, not_and]
    rintro ⟨⟨h1, h2, h3⟩, h4, h5⟩
    exact absurd ⟨h1, h2, h3, h4, h5⟩ h
theorem we_alen {o : Nat} (hd : decode (mB m) pc = .ok (.arraylength, 1)) : wp X m pc L (.ref o :: S) E I J R Q = ((o < E.1 ∧ 100 ≤ (E.2.2 o).1 ∧ (E.2.2 o).1 ≤ 104) ∧ wp X m (pc + 1) L (.int (Int32.ofNat (E.2.2 o).2) :: S) E I J R Q) := by
  rw [wp_stp hd rfl rfl]; simp only [tm_stp, if_pos]
  by_cases h : o < E.1 ∧ 100 ≤ (E.2.2 o).1 ∧ (E.2.2 o).1 ≤ 104 <;> simp [h]
theorem we_alenX {o : Nat} (hd : decode (mB m) pc = .ok (.arraylength, 1)) : wp X m pc L (.retAddr o :: S) E I J R Q = wp X m (pc + 1) L (.int (Int32.ofNat X.1) :: S) E I J R Q := by
  rw [wp_stp hd rfl rfl]; rfl
theorem we_newa {t : ArrayType} {kd : Nat} {n : Int32} (hd : decode (mB m) pc = .ok (.newarray t, 2)) (hk : tm_akd t = some kd) : wp X m pc L (.int n :: S) E I J R Q = ((¬ n < 0 ∧ n.toNatClampNeg ≤ 1000000) ∧ wp X m (pc + 2) L (.ref E.1 :: S) (tm_new (E, I, J, R) kd n.toNatClampNeg).1 (tm_new (E, I, J, R) kd n.toNatClampNeg).2.1 (tm_new (E, I, J, R) kd n.toNatClampNeg).2.2.1 (tm_new (E, I, J, R) kd n.toNatClampNeg).2.2.2 Q) := by
  rw [wp_stp hd rfl rfl]; simp only [tm_stp, if_pos, hk]
  by_cases h : ¬ n < 0 ∧ n.toNatClampNeg ≤ 1000000
  · rw [if_pos h]
    simp only [eq_iff_iff]
    exact ⟨fun q => ⟨h, q⟩, fun q => q.2⟩
  · rw [if_neg h]
    simp only [eq_iff_iff, false_iff, not_and]
    exact fun q => absurd q h
theorem we_newq {k z : Nat} {n : Int32} (hd : decode (mB m) pc = .ok (.anewarray k, 3)) (hl : tm_lk tm_cl (mO m) k = some (4, z)) : wp X m pc L (.int n :: S) E I J R Q = ((¬ n < 0 ∧ n.toNatClampNeg ≤ 1000000) ∧ wp X m (pc + 3) L (.ref E.1 :: S) (tm_new (E, I, J, R) 104 n.toNatClampNeg).1 (tm_new (E, I, J, R) 104 n.toNatClampNeg).2.1 (tm_new (E, I, J, R) 104 n.toNatClampNeg).2.2.1 (tm_new (E, I, J, R) 104 n.toNatClampNeg).2.2.2 Q) := by
  rw [wp_stp hd rfl rfl]; simp only [tm_stp, if_pos, hl]
  by_cases h : ¬ n < 0 ∧ n.toNatClampNeg ≤ 1000000
  · rw [if_pos h]
    simp only [eq_iff_iff]
    exact ⟨fun q => ⟨h, q⟩, fun q => q.2⟩
  · rw [if_neg h]
    simp only [eq_iff_iff, false_iff, not_and]
    exact fun q => absurd q h
theorem we_new {k c n : Nat} (hd : decode (mB m) pc = .ok (.new k, 3)) (hl : tm_lk tm_cl (mO m) k = some (c, n)) : wp X m pc L S E I J R Q = wp X m (pc + 3) L (.ref E.1 :: S) (tm_new (E, I, J, R) c n).1 (tm_new (E, I, J, R) c n).2.1 (tm_new (E, I, J, R) c n).2.2.1 (tm_new (E, I, J, R) c n).2.2.2 Q := by
  rw [wp_stp hd rfl rfl]; simp only [tm_stp, if_pos, hl]
theorem we_reti {x : Int32} (hd : decode (mB m) pc = .ok (.ireturn, 1)) (ht : mT m = some .int) : wp X m pc L [.int x] E I J R Q = Q (some (.int x)) E I J R := wp_ret hd (by simp only [tm_ret, if_pos, ht])
theorem we_retz {x : Int32} (hd : decode (mB m) pc = .ok (.ireturn, 1)) (ht : mT m = some .boolean) (hx : x = 0 ∨ x = 1) : wp X m pc L [.int x] E I J R Q = Q (some (.int x)) E I J R := wp_ret hd (by simp only [tm_ret, if_pos, ht, hx])
theorem we_retz0 (hd : decode (mB m) pc = .ok (.ireturn, 1)) (ht : mT m = some .boolean) : wp X m pc L [.int (nI 0)] E I J R Q = Q (some (.int (nI 0))) E I J R := we_retz hd ht (Or.inl rfl)
theorem we_retz1 (hd : decode (mB m) pc = .ok (.ireturn, 1)) (ht : mT m = some .boolean) : wp X m pc L [.int (nI 1)] E I J R Q = Q (some (.int (nI 1))) E I J R := we_retz hd ht (Or.inr rfl)
theorem we_retl {x : Int64} (hd : decode (mB m) pc = .ok (.lreturn, 1)) (ht : mT m = some .long) : wp X m pc L [.long x] E I J R Q = Q (some (.long x)) E I J R := wp_ret hd (by simp only [tm_ret, if_pos, ht])
theorem we_retv (hd : decode (mB m) pc = .ok (.return_, 1)) (ht : mT m = none) : wp X m pc L [] E I J R Q = Q none E I J R := wp_ret hd (by simp only [tm_ret, if_pos, ht])
theorem we_obj {k z o : Nat} (hd : decode (mB m) pc = .ok (.invokespecial k, 3)) (hl : tm_lk tm_ml (mO m) k = some (2, z)) (hn : 1 ≤ mF m ∧ 20 ≤ mN m) : wp X m pc L (.ref o :: S) E I J R Q = (tm_wt S ≤ 8 ∧ wp X m (pc + 3) L S E I J R Q) := by
  rw [wp_stp hd rfl (by simp [tm_call, hl])]; simp only [tm_stp, if_pos, hl, hn, and_true]
  by_cases h : tm_wt S ≤ 8 <;> simp [h]
theorem we_min {k z : Nat} {x y : Int32} (hd : decode (mB m) pc = .ok (.invokestatic k, 3)) (hl : tm_lk tm_ml (mO m) k = some (4, z)) (hn : 1 ≤ mF m ∧ 21 ≤ mN m) : wp X m pc L (.int y :: .int x :: S) E I J R Q = (tm_wt S ≤ 8 ∧ wp X m (pc + 3) L (.int (if y < x then y else x) :: S) E I J R Q) := by
  rw [wp_stp hd rfl (by simp [tm_call, hl])]; simp only [tm_stp, if_pos, hl, hn, and_true]
  by_cases h : tm_wt S ≤ 8 <;> simp [h]
def zmax (x y : Int32) : Int32 := if x < y then y else x
theorem we_max {k z : Nat} {x y : Int32} (hd : decode (mB m) pc = .ok (.invokestatic k, 3)) (hl : tm_lk tm_ml (mO m) k = some (5, z)) (hn : 1 ≤ mF m ∧ 21 ≤ mN m) : wp X m pc L (.int y :: .int x :: S) E I J R Q = (tm_wt S ≤ 8 ∧ wp X m (pc + 3) L (.int (zmax x y) :: S) E I J R Q) := by
  rw [wp_stp hd rfl (by simp [tm_call, hl])]; simp only [tm_stp, if_pos, hl, hn, and_true, zmax]
  by_cases h : tm_wt S ≤ 8 <;> simp [h]
def zcp (E : tE) (a0 : Nat) (sp : Int32) (a : Nat) (dp n : Int32) : Prop := a < E.1 ∧ a0 < E.1 ∧ (E.2.2 a).1 = (E.2.2 a0).1 ∧ ((E.2.2 a0).1 = 100 ∨ (E.2.2 a0).1 = 101) ∧ ¬ sp < 0 ∧ ¬ dp < 0 ∧ ¬ n < 0 ∧ sp.toNatClampNeg + n.toNatClampNeg ≤ (E.2.2 a0).2 ∧ dp.toNatClampNeg + n.toNatClampNeg ≤ (E.2.2 a).2
theorem we_copy {k z a a0 : Nat} {sp dp n : Int32} (hd : decode (mB m) pc = .ok (.invokestatic k, 3)) (hl : tm_lk tm_ml (mO m) k = some (3, z)) (hn : 1 ≤ mF m ∧ 26 ≤ mN m) : wp X m pc L (.int n :: .int dp :: .ref a :: .int sp :: .ref a0 :: S) E I J R Q = ((tm_wt S ≤ 8 ∧ zcp E a0 sp a dp n) ∧ wp X m (pc + 3) L S E (va_up I a (va_cpy (I a0) (I a) sp.toNatClampNeg dp.toNatClampNeg n.toNatClampNeg)) J R Q) := by
  rw [wp_stp hd rfl (by simp [tm_call, hl])]; simp only [tm_stp, if_pos, hl, hn, true_and, zcp]
  by_cases h : tm_wt S ≤ 8 ∧ a < E.1 ∧ a0 < E.1 ∧ (E.2.2 a).1 = (E.2.2 a0).1 ∧ ((E.2.2 a0).1 = 100 ∨ (E.2.2 a0).1 = 101) ∧ ¬ sp < 0 ∧ ¬ dp < 0 ∧ ¬ n < 0 ∧ sp.toNatClampNeg + n.toNatClampNeg ≤ (E.2.2 a0).2 ∧ dp.toNatClampNeg + n.toNatClampNeg ≤ (E.2.2 a).2
  · rw [if_pos h]
    simp only [eq_iff_iff]
    exact ⟨fun q => ⟨h, q⟩, fun q => q.2⟩
  · rw [if_neg h]
    simp only [eq_iff_iff, false_iff, not_and]
    exact fun q => absurd q h
/-- what a call asks of the numbers -/
def zok (m y : Nat) : Prop := mF y + 1 ≤ mF m ∧ 8 + (mL y + 11) + mN y ≤ mN m
theorem we_cv {k y o : Nat} {as : List Value} (hd : decode (mB m) pc = .ok (.invokevirtual k, 3)) (hl : tm_lk tm_ml (mO m) k = some (0, y)) (hk : mK y = 0) (ha : mA y = as.length) (h12 : mO y < 12) (hz : zok m y) : wp X m pc L (as.reverse ++ .ref o :: S) E I J R Q = ((zC E o (mO y) ∧ tm_wt S ≤ 8 ∧ tm_wt (.ref o :: as) ≤ mL y) ∧ cwk X y (.ref o :: as) E I J R m (pc + 3) L S Q) := by
  have e1 : (as.reverse ++ .ref o :: S).take as.length = as.reverse := by
    rw [List.take_append_of_le_length (by simp)]
    exact List.take_of_length_le (by simp)
  have e2 : (as.reverse ++ .ref o :: S).drop as.length = .ref o :: S := by
    rw [List.drop_append_of_le_length (by simp), List.drop_of_length_le (by simp)]
    rfl
  by_cases h : zC E o (mO y) ∧ tm_wt S ≤ 8 ∧ tm_wt (.ref o :: as) ≤ mL y
  · have hc : tm_call m (.invokevirtual k) 3 (as.reverse ++ .ref o :: S) E = some (y, .ref o :: as, S) := by
      simp only [tm_call, if_pos, hl, hk, ha, e1, e2, List.reverse_reverse, true_and]
      have hq : tm_cok m y (.ref o :: as) S = true := by
        unfold tm_cok
        rw [tm_sl_len]
        exact decide_eq_true ⟨h.2.1, hz.1, hz.2, h.2.2⟩
      rw [if_pos (by simp)]
      rw [if_pos ⟨h.1.1, h.1.2, h12, hq⟩]
    rw [wp_call hd rfl hc]
    simp [h]
  · have hc : tm_call m (.invokevirtual k) 3 (as.reverse ++ .ref o :: S) E = none := by
      simp only [tm_call, if_pos, hl, hk, ha, e1, e2, List.reverse_reverse, true_and]
      rw [if_pos (by simp)]
      rw [if_neg ?_]
      rintro ⟨q1, q2, q3, q4⟩
      unfold tm_cok at q4
      rw [tm_sl_len] at q4
      obtain ⟨g1, g2, g3, g4⟩ := of_decide_eq_true q4
      exact h ⟨⟨q1, q2⟩, g1, g4⟩
    rw [wp_stp hd rfl hc]
    simp [h, tm_stp]
theorem we_cs {k y kd : Nat} {as : List Value} (hd : decode (mB m) pc = .ok (.invokestatic k, 3)) (hl : tm_lk tm_ml (mO m) k = some (kd, y)) (hkd : kd ≤ 1) (hk : mK y = 1) (ha : mA y = as.length) (hz : zok m y) : wp X m pc L (as.reverse ++ S) E I J R Q = ((tm_wt S ≤ 8 ∧ tm_wt as ≤ mL y) ∧ cwk X y as E I J R m (pc + 3) L S Q) := by
  have e1 : (as.reverse ++ S).take as.length = as.reverse := by
    rw [List.take_append_of_le_length (by simp)]
    exact List.take_of_length_le (by simp)
  have e2 : (as.reverse ++ S).drop as.length = S := by
    rw [List.drop_append_of_le_length (by simp), List.drop_of_length_le (by simp)]
    rfl
  by_cases h : tm_wt S ≤ 8 ∧ tm_wt as ≤ mL y
  · have hc : tm_call m (.invokestatic k) 3 (as.reverse ++ S) E = some (y, as, S) := by
      simp only [tm_call, if_pos, hl, hk, ha, e1, e2, List.reverse_reverse, true_and, hkd]
      have hq : tm_cok m y as S = true := by
        unfold tm_cok
        rw [tm_sl_len]
        exact decide_eq_true ⟨h.1, hz.1, hz.2, h.2⟩
      rw [if_pos ⟨by simp, hq⟩]
    rw [wp_call hd rfl hc]
    simp [h]
  · have hc : tm_call m (.invokestatic k) 3 (as.reverse ++ S) E = none := by
      simp only [tm_call, if_pos, hl, hk, ha, e1, e2, List.reverse_reverse, true_and, hkd]
      rw [if_neg ?_]
      rintro ⟨q1, q4⟩
      unfold tm_cok at q4
      rw [tm_sl_len] at q4
      obtain ⟨g1, g2, g3, g4⟩ := of_decide_eq_true q4
      exact h ⟨g1, g4⟩
    rw [wp_stp hd rfl hc]
    simp only [tm_stp, if_pos, hl, h, false_and]
    match kd, hkd with
    | 0, _ => simp
    | 1, _ => simp
theorem we_ci {k y o kd : Nat} {as : List Value} (hd : decode (mB m) pc = .ok (.invokespecial k, 3)) (hl : tm_lk tm_ml (mO m) k = some (kd, y)) (hkd : kd ≤ 1) (hk : mK y = 2) (ha : mA y = as.length) (hz : zok m y) : wp X m pc L (as.reverse ++ .ref o :: S) E I J R Q = ((tm_wt S ≤ 8 ∧ tm_wt (.ref o :: as) ≤ mL y) ∧ cwk X y (.ref o :: as) E I J R m (pc + 3) L S Q) := by
  have e1 : (as.reverse ++ .ref o :: S).take as.length = as.reverse := by
    rw [List.take_append_of_le_length (by simp)]
    exact List.take_of_length_le (by simp)
  have e2 : (as.reverse ++ .ref o :: S).drop as.length = .ref o :: S := by
    rw [List.drop_append_of_le_length (by simp), List.drop_of_length_le (by simp)]
    rfl
  by_cases h : tm_wt S ≤ 8 ∧ tm_wt (.ref o :: as) ≤ mL y
  · have hc : tm_call m (.invokespecial k) 3 (as.reverse ++ .ref o :: S) E = some (y, .ref o :: as, S) := by
      simp only [tm_call, if_pos, hl, hk, ha, e1, e2, List.reverse_reverse, true_and, hkd]
      rw [if_pos (by simp)]
      rw [if_pos ?_]
      unfold tm_cok
      rw [tm_sl_len]
      exact decide_eq_true ⟨h.1, hz.1, hz.2, h.2⟩
    rw [wp_call hd rfl hc]
    simp [h]
  · have hc : tm_call m (.invokespecial k) 3 (as.reverse ++ .ref o :: S) E = none := by
      simp only [tm_call, if_pos, hl, hk, ha, e1, e2, List.reverse_reverse, true_and, hkd]
      rw [if_pos (by simp)]
      rw [if_neg ?_]
      intro q4
      unfold tm_cok at q4
      rw [tm_sl_len] at q4
      obtain ⟨g1, g2, g3, g4⟩ := of_decide_eq_true q4
      exact h ⟨g1, g4⟩
    rw [wp_stp hd rfl hc]
    simp only [tm_stp, if_pos, hl, h, false_and]
    match kd, hkd with
    | 0, _ => cases as.reverse with
      | nil => simp
      | cons a l => cases a <;> simp
    | 1, _ => cases as.reverse with
      | nil => simp
      | cons a l => cases a <;> simp
end WE
