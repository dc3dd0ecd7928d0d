section KC
variable {X : tX} {L : tL} {S : List Value} {E : tE} {I : tI} {J : tJ} {R : tR} {Q : tQ}
/-! 4 Names_init -/
theorem k4_0 : wp X 4 0 L S E I J R Q = zla L 0 (fun x => wp X 4 1 L (x :: S) E I J R Q) := we_aload_n (show decode (mB 4) 0 = .ok (.aload_n 0, 1) by decide +kernel)
theorem k4_1 {o : Nat} : wp X 4 1 L (.ref o :: S) E I J R Q = (tm_wt S ≤ 8 ∧ wp X 4 4 L S E I J R Q) := we_obj (z := 999) (show decode (mB 4) 1 = .ok (.invokespecial 3, 3) by decide +kernel) (by decide) (by decide)
theorem k4_4 : wp X 4 4 L S E I J R Q = zla L 0 (fun x => wp X 4 5 L (x :: S) E I J R Q) := we_aload_n (show decode (mB 4) 4 = .ok (.aload_n 0, 1) by decide +kernel)
theorem k4_5 : wp X 4 5 L S E I J R Q = wp X 4 6 L (.int (nI 0) :: S) E I J R Q := we_iconst (show decode (mB 4) 5 = .ok (.iconst 0, 1) by decide +kernel) (by decide)
theorem k4_6 {o : Nat} {x : Int32} : wp X 4 6 L (.int x :: .ref o :: S) E I J R Q = (zF E o 1 2 ∧ wp X 4 9 L S E (va_up I o (va_up (I o) 2 x)) J R Q) := we_putI (show decode (mB 4) 6 = .ok (.putfield 9, 3) by decide +kernel) (by decide) (by decide) (by decide) (by decide)
theorem k4_9 : wp X 4 9 L S E I J R Q = zla L 0 (fun x => wp X 4 10 L (x :: S) E I J R Q) := we_aload_n (show decode (mB 4) 9 = .ok (.aload_n 0, 1) by decide +kernel)
theorem k4_10 : wp X 4 10 L S E I J R Q = zli L 1 (fun x => wp X 4 11 L (.int x :: S) E I J R Q) := we_iload_n (show decode (mB 4) 10 = .ok (.iload_n 1, 1) by decide +kernel)
theorem k4_11 {n : Int32} : wp X 4 11 L (.int n :: S) E I J R Q = ((¬ n < 0 ∧ n.toNatClampNeg ≤ 1000000) ∧ wp X 4 13 L (.ref E.1 :: S) (tm_new (E, I, J, R) 103 n.toNatClampNeg).1 (tm_new (E, I, J, R) 103 n.toNatClampNeg).2.1 (tm_new (E, I, J, R) 103 n.toNatClampNeg).2.2.1 (tm_new (E, I, J, R) 103 n.toNatClampNeg).2.2.2 Q) := we_newa (show decode (mB 4) 11 = .ok (.newarray .long, 2) by decide +kernel) rfl
theorem k4_13 {o a : Nat} : wp X 4 13 L (.ref a :: .ref o :: S) E I J R Q = (zF E o 1 0 ∧ wp X 4 16 L S E I J (va_up R o (va_up (R o) 0 (some a))) Q) := we_putRr (show decode (mB 4) 13 = .ok (.putfield 15, 3) by decide +kernel) (by decide) (by decide) (by decide) (by decide)
theorem k4_16 : wp X 4 16 L S E I J R Q = zla L 0 (fun x => wp X 4 17 L (x :: S) E I J R Q) := we_aload_n (show decode (mB 4) 16 = .ok (.aload_n 0, 1) by decide +kernel)
theorem k4_17 : wp X 4 17 L S E I J R Q = zli L 1 (fun x => wp X 4 18 L (.int x :: S) E I J R Q) := we_iload_n (show decode (mB 4) 17 = .ok (.iload_n 1, 1) by decide +kernel)
theorem k4_18 {n : Int32} : wp X 4 18 L (.int n :: S) E I J R Q = ((¬ n < 0 ∧ n.toNatClampNeg ≤ 1000000) ∧ wp X 4 20 L (.ref E.1 :: S) (tm_new (E, I, J, R) 100 n.toNatClampNeg).1 (tm_new (E, I, J, R) 100 n.toNatClampNeg).2.1 (tm_new (E, I, J, R) 100 n.toNatClampNeg).2.2.1 (tm_new (E, I, J, R) 100 n.toNatClampNeg).2.2.2 Q) := we_newa (show decode (mB 4) 18 = .ok (.newarray .int, 2) by decide +kernel) rfl
theorem k4_20 {o a : Nat} : wp X 4 20 L (.ref a :: .ref o :: S) E I J R Q = (zF E o 1 1 ∧ wp X 4 23 L S E I J (va_up R o (va_up (R o) 1 (some a))) Q) := we_putRr (show decode (mB 4) 20 = .ok (.putfield 19, 3) by decide +kernel) (by decide) (by decide) (by decide) (by decide)
theorem k4_23 : wp X 4 23 L [] E I J R Q = Q none E I J R := we_retv (show decode (mB 4) 23 = .ok (.return_, 1) by decide +kernel) rfl
/-! 37 Names_find -/
theorem k37_0 : wp X 37 0 L S E I J R Q = wp X 37 1 L (.int (nI 0) :: S) E I J R Q := we_iconst (show decode (mB 37) 0 = .ok (.iconst 0, 1) by decide +kernel) (by decide)
theorem k37_1 {x : Int32} : wp X 37 1 L (.int x :: S) E I J R Q = zst L 4 (.int x) (fun L => wp X 37 3 L S E I J R Q) := we_istore (show decode (mB 37) 1 = .ok (.istore 4, 2) by decide +kernel)
theorem k37_3 : wp X 37 3 L S E I J R Q = zli L 4 (fun x => wp X 37 5 L (.int x :: S) E I J R Q) := we_iload (show decode (mB 37) 3 = .ok (.iload 4, 2) by decide +kernel)
theorem k37_5 : wp X 37 5 L S E I J R Q = zla L 0 (fun x => wp X 37 6 L (x :: S) E I J R Q) := we_aload_n (show decode (mB 37) 5 = .ok (.aload_n 0, 1) by decide +kernel)
theorem k37_6 {o : Nat} : wp X 37 6 L (.ref o :: S) E I J R Q = (zF E o 1 2 ∧ wp X 37 9 L (.int (I o 2) :: S) E I J R Q) := we_getI (show decode (mB 37) 6 = .ok (.getfield 9, 3) by decide +kernel) (by decide) (by decide) (by decide)
theorem k37_9 {x y : Int32} : wp X 37 9 L (.int y :: .int x :: S) E I J R Q = ((y ≤ x → wp X 37 44 L S E I J R Q) ∧ (¬ y ≤ x → wp X 37 12 L S E I J R Q)) := we_ic_ge (show decode (mB 37) 9 = .ok (.if_icmp .ge 35, 3) by decide +kernel) (by decide)
theorem k37_12 : wp X 37 12 L S E I J R Q = zla L 0 (fun x => wp X 37 13 L (x :: S) E I J R Q) := we_aload_n (show decode (mB 37) 12 = .ok (.aload_n 0, 1) by decide +kernel)
theorem k37_13 {o : Nat} : wp X 37 13 L (.ref o :: S) E I J R Q = (zF E o 1 0 ∧ wp X 37 16 L (tm_rv (R o 0) :: S) E I J R Q) := we_getR (show decode (mB 37) 13 = .ok (.getfield 15, 3) by decide +kernel) (by decide) (by decide) (by decide)
theorem k37_16 : wp X 37 16 L S E I J R Q = zli L 4 (fun x => wp X 37 18 L (.int x :: S) E I J R Q) := we_iload (show decode (mB 37) 16 = .ok (.iload 4, 2) by decide +kernel)
theorem k37_18 {o : Nat} {i : Int32} : wp X 37 18 L (.int i :: .ref o :: S) E I J R Q = (zA E o 103 i ∧ wp X 37 19 L (.long (J o i.toNatClampNeg) :: S) E I J R Q) := we_laload (show decode (mB 37) 18 = .ok (.laload, 1) by decide +kernel)
theorem k37_19 : wp X 37 19 L S E I J R Q = zll L 1 (fun x => wp X 37 20 L (.long x :: S) E I J R Q) := we_lload_n (show decode (mB 37) 19 = .ok (.lload_n 1, 1) by decide +kernel)
theorem k37_20 {x y : Int64} : wp X 37 20 L (.long y :: .long x :: S) E I J R Q = wp X 37 21 L (.int (lg_cmp x y) :: S) E I J R Q := we_lcmp (show decode (mB 37) 20 = .ok (.lcmp, 1) by decide +kernel)
theorem k37_21 {x : Int32} : wp X 37 21 L (.int x :: S) E I J R Q = ((x = 0 → wp X 37 24 L S E I J R Q) ∧ (¬ x = 0 → wp X 37 38 L S E I J R Q)) := we_if_ne (show decode (mB 37) 21 = .ok (.ifCond .ne 17, 3) by decide +kernel) (by decide)
theorem k37_24 : wp X 37 24 L S E I J R Q = zla L 0 (fun x => wp X 37 25 L (x :: S) E I J R Q) := we_aload_n (show decode (mB 37) 24 = .ok (.aload_n 0, 1) by decide +kernel)
theorem k37_25 {o : Nat} : wp X 37 25 L (.ref o :: S) E I J R Q = (zF E o 1 1 ∧ wp X 37 28 L (tm_rv (R o 1) :: S) E I J R Q) := we_getR (show decode (mB 37) 25 = .ok (.getfield 19, 3) by decide +kernel) (by decide) (by decide) (by decide)
theorem k37_28 : wp X 37 28 L S E I J R Q = zli L 4 (fun x => wp X 37 30 L (.int x :: S) E I J R Q) := we_iload (show decode (mB 37) 28 = .ok (.iload 4, 2) by decide +kernel)
theorem k37_30 {o : Nat} {i : Int32} : wp X 37 30 L (.int i :: .ref o :: S) E I J R Q = (zA E o 100 i ∧ wp X 37 31 L (.int (I o i.toNatClampNeg) :: S) E I J R Q) := we_iaload (show decode (mB 37) 30 = .ok (.iaload, 1) by decide +kernel)
theorem k37_31 : wp X 37 31 L S E I J R Q = zli L 3 (fun x => wp X 37 32 L (.int x :: S) E I J R Q) := we_iload_n (show decode (mB 37) 31 = .ok (.iload_n 3, 1) by decide +kernel)
theorem k37_32 {x y : Int32} : wp X 37 32 L (.int y :: .int x :: S) E I J R Q = ((x = y → wp X 37 35 L S E I J R Q) ∧ (¬ x = y → wp X 37 38 L S E I J R Q)) := we_ic_ne (show decode (mB 37) 32 = .ok (.if_icmp .ne 6, 3) by decide +kernel) (by decide)
theorem k37_35 : wp X 37 35 L S E I J R Q = zli L 4 (fun x => wp X 37 37 L (.int x :: S) E I J R Q) := we_iload (show decode (mB 37) 35 = .ok (.iload 4, 2) by decide +kernel)
theorem k37_37 {x : Int32} : wp X 37 37 L [.int x] E I J R Q = Q (some (.int x)) E I J R := we_reti (show decode (mB 37) 37 = .ok (.ireturn, 1) by decide +kernel) rfl
theorem k37_38 : wp X 37 38 L S E I J R Q = zli L 4 (fun x => zst L 4 (.int (x + (nI 1))) (fun L => wp X 37 41 L S E I J R Q)) := we_iinc (show decode (mB 37) 38 = .ok (.iinc 4 1, 3) by decide +kernel) (by decide)
theorem k37_41 : wp X 37 41 L S E I J R Q = wp X 37 3 L S E I J R Q := we_goto (show decode (mB 37) 41 = .ok (.goto (-38), 3) by decide +kernel) (by decide)
theorem k37_44 : wp X 37 44 L S E I J R Q = wp X 37 45 L (.int (-1) :: S) E I J R Q := we_iconst (show decode (mB 37) 44 = .ok (.iconst (-1), 1) by decide +kernel) (by decide)
theorem k37_45 {x : Int32} : wp X 37 45 L [.int x] E I J R Q = Q (some (.int x)) E I J R := we_reti (show decode (mB 37) 45 = .ok (.ireturn, 1) by decide +kernel) rfl
/-! 38 Names_add -/
theorem k38_0 : wp X 38 0 L S E I J R Q = zla L 0 (fun x => wp X 38 1 L (x :: S) E I J R Q) := we_aload_n (show decode (mB 38) 0 = .ok (.aload_n 0, 1) by decide +kernel)
theorem k38_1 {o : Nat} : wp X 38 1 L (.ref o :: S) E I J R Q = (zF E o 1 2 ∧ wp X 38 4 L (.int (I o 2) :: S) E I J R Q) := we_getI (show decode (mB 38) 1 = .ok (.getfield 9, 3) by decide +kernel) (by decide) (by decide) (by decide)
theorem k38_4 : wp X 38 4 L S E I J R Q = zla L 0 (fun x => wp X 38 5 L (x :: S) E I J R Q) := we_aload_n (show decode (mB 38) 4 = .ok (.aload_n 0, 1) by decide +kernel)
theorem k38_5 {o : Nat} : wp X 38 5 L (.ref o :: S) E I J R Q = (zF E o 1 0 ∧ wp X 38 8 L (tm_rv (R o 0) :: S) E I J R Q) := we_getR (show decode (mB 38) 5 = .ok (.getfield 15, 3) by decide +kernel) (by decide) (by decide) (by decide)
theorem k38_8 {o : Nat} : wp X 38 8 L (.ref o :: S) E I J R Q = ((o < E.1 ∧ 100 ≤ (E.2.2 o).1 ∧ (E.2.2 o).1 ≤ 104) ∧ wp X 38 9 L (.int (nI (E.2.2 o).2) :: S) E I J R Q) := we_alen (show decode (mB 38) 8 = .ok (.arraylength, 1) by decide +kernel)
theorem k38_9 {x y : Int32} : wp X 38 9 L (.int y :: .int x :: S) E I J R Q = ((x < y → wp X 38 14 L S E I J R Q) ∧ (¬ x < y → wp X 38 12 L S E I J R Q)) := we_ic_lt (show decode (mB 38) 9 = .ok (.if_icmp .lt 5, 3) by decide +kernel) (by decide)
theorem k38_12 : wp X 38 12 L S E I J R Q = wp X 38 13 L (.int (-1) :: S) E I J R Q := we_iconst (show decode (mB 38) 12 = .ok (.iconst (-1), 1) by decide +kernel) (by decide)
theorem k38_13 {x : Int32} : wp X 38 13 L [.int x] E I J R Q = Q (some (.int x)) E I J R := we_reti (show decode (mB 38) 13 = .ok (.ireturn, 1) by decide +kernel) rfl
theorem k38_14 : wp X 38 14 L S E I J R Q = zla L 0 (fun x => wp X 38 15 L (x :: S) E I J R Q) := we_aload_n (show decode (mB 38) 14 = .ok (.aload_n 0, 1) by decide +kernel)
theorem k38_15 {o : Nat} : wp X 38 15 L (.ref o :: S) E I J R Q = (zF E o 1 0 ∧ wp X 38 18 L (tm_rv (R o 0) :: S) E I J R Q) := we_getR (show decode (mB 38) 15 = .ok (.getfield 15, 3) by decide +kernel) (by decide) (by decide) (by decide)
theorem k38_18 : wp X 38 18 L S E I J R Q = zla L 0 (fun x => wp X 38 19 L (x :: S) E I J R Q) := we_aload_n (show decode (mB 38) 18 = .ok (.aload_n 0, 1) by decide +kernel)
theorem k38_19 {o : Nat} : wp X 38 19 L (.ref o :: S) E I J R Q = (zF E o 1 2 ∧ wp X 38 22 L (.int (I o 2) :: S) E I J R Q) := we_getI (show decode (mB 38) 19 = .ok (.getfield 9, 3) by decide +kernel) (by decide) (by decide) (by decide)
theorem k38_22 : wp X 38 22 L S E I J R Q = zll L 1 (fun x => wp X 38 23 L (.long x :: S) E I J R Q) := we_lload_n (show decode (mB 38) 22 = .ok (.lload_n 1, 1) by decide +kernel)
theorem k38_23 {o : Nat} {i : Int32} {x : Int64} : wp X 38 23 L (.long x :: .int i :: .ref o :: S) E I J R Q = (zA E o 103 i ∧ wp X 38 24 L S E I (va_up J o (va_up (J o) i.toNatClampNeg x)) R Q) := we_lastore (show decode (mB 38) 23 = .ok (.lastore, 1) by decide +kernel)
theorem k38_24 : wp X 38 24 L S E I J R Q = zla L 0 (fun x => wp X 38 25 L (x :: S) E I J R Q) := we_aload_n (show decode (mB 38) 24 = .ok (.aload_n 0, 1) by decide +kernel)
theorem k38_25 {o : Nat} : wp X 38 25 L (.ref o :: S) E I J R Q = (zF E o 1 1 ∧ wp X 38 28 L (tm_rv (R o 1) :: S) E I J R Q) := we_getR (show decode (mB 38) 25 = .ok (.getfield 19, 3) by decide +kernel) (by decide) (by decide) (by decide)
theorem k38_28 : wp X 38 28 L S E I J R Q = zla L 0 (fun x => wp X 38 29 L (x :: S) E I J R Q) := we_aload_n (show decode (mB 38) 28 = .ok (.aload_n 0, 1) by decide +kernel)
theorem k38_29 {o : Nat} : wp X 38 29 L (.ref o :: S) E I J R Q = (zF E o 1 2 ∧ wp X 38 32 L (.int (I o 2) :: S) E I J R Q) := we_getI (show decode (mB 38) 29 = .ok (.getfield 9, 3) by decide +kernel) (by decide) (by decide) (by decide)
theorem k38_32 : wp X 38 32 L S E I J R Q = zli L 3 (fun x => wp X 38 33 L (.int x :: S) E I J R Q) := we_iload_n (show decode (mB 38) 32 = .ok (.iload_n 3, 1) by decide +kernel)
theorem k38_33 {o : Nat} {i x : Int32} : wp X 38 33 L (.int x :: .int i :: .ref o :: S) E I J R Q = (zA E o 100 i ∧ wp X 38 34 L S E (va_up I o (va_up (I o) i.toNatClampNeg x)) J R Q) := we_iastore (show decode (mB 38) 33 = .ok (.iastore, 1) by decide +kernel)
theorem k38_34 : wp X 38 34 L S E I J R Q = zla L 0 (fun x => wp X 38 35 L (x :: S) E I J R Q) := we_aload_n (show decode (mB 38) 34 = .ok (.aload_n 0, 1) by decide +kernel)
theorem k38_35 {v : Value} : wp X 38 35 L (v :: S) E I J R Q = (v.category = 1 ∧ wp X 38 36 L (v :: v :: S) E I J R Q) := we_dup (show decode (mB 38) 35 = .ok (.dup, 1) by decide +kernel)
theorem k38_36 {o : Nat} : wp X 38 36 L (.ref o :: S) E I J R Q = (zF E o 1 2 ∧ wp X 38 39 L (.int (I o 2) :: S) E I J R Q) := we_getI (show decode (mB 38) 36 = .ok (.getfield 9, 3) by decide +kernel) (by decide) (by decide) (by decide)
theorem k38_39 {v w : Value} : wp X 38 39 L (v :: w :: S) E I J R Q = ((v.category = 1 ∧ w.category = 1) ∧ wp X 38 40 L (v :: w :: v :: S) E I J R Q) := we_dup_x1 (show decode (mB 38) 39 = .ok (.dup_x1, 1) by decide +kernel)
theorem k38_40 : wp X 38 40 L S E I J R Q = wp X 38 41 L (.int (nI 1) :: S) E I J R Q := we_iconst (show decode (mB 38) 40 = .ok (.iconst 1, 1) by decide +kernel) (by decide)
theorem k38_41 {x y : Int32} : wp X 38 41 L (.int y :: .int x :: S) E I J R Q = wp X 38 42 L (.int (x + y) :: S) E I J R Q := we_iadd (show decode (mB 38) 41 = .ok (.iadd, 1) by decide +kernel)
theorem k38_42 {o : Nat} {x : Int32} : wp X 38 42 L (.int x :: .ref o :: S) E I J R Q = (zF E o 1 2 ∧ wp X 38 45 L S E (va_up I o (va_up (I o) 2 x)) J R Q) := we_putI (show decode (mB 38) 42 = .ok (.putfield 9, 3) by decide +kernel) (by decide) (by decide) (by decide) (by decide)
theorem k38_45 {x : Int32} : wp X 38 45 L [.int x] E I J R Q = Q (some (.int x)) E I J R := we_reti (show decode (mB 38) 45 = .ok (.ireturn, 1) by decide +kernel) rfl
/-! 62 Names_findOrAdd -/
theorem k62_0 : wp X 62 0 L S E I J R Q = zla L 0 (fun x => wp X 62 1 L (x :: S) E I J R Q) := we_aload_n (show decode (mB 62) 0 = .ok (.aload_n 0, 1) by decide +kernel)
theorem k62_1 : wp X 62 1 L S E I J R Q = zll L 1 (fun x => wp X 62 2 L (.long x :: S) E I J R Q) := we_lload_n (show decode (mB 62) 1 = .ok (.lload_n 1, 1) by decide +kernel)
theorem k62_2 : wp X 62 2 L S E I J R Q = zli L 3 (fun x => wp X 62 3 L (.int x :: S) E I J R Q) := we_iload_n (show decode (mB 62) 2 = .ok (.iload_n 3, 1) by decide +kernel)
theorem k62_3 {o : Nat} {a0 : Int64} {a1 : Int32} : wp X 62 3 L (.int a1 :: .long a0 :: .ref o :: S) E I J R Q = ((zC E o 1 ∧ tm_wt S ≤ 8 ∧ tm_wt [.ref o, .long a0, .int a1] ≤ 5) ∧ cwk X 37 [.ref o, .long a0, .int a1] E I J R 62 6 L S Q) := we_cv (y := 37) (as := [.long a0, .int a1]) (show decode (mB 62) 3 = .ok (.invokevirtual 23, 3) by decide +kernel) (by decide) (by decide) rfl (by decide) ⟨by decide, by decide⟩
theorem k62_6 {x : Int32} : wp X 62 6 L (.int x :: S) E I J R Q = zst L 4 (.int x) (fun L => wp X 62 8 L S E I J R Q) := we_istore (show decode (mB 62) 6 = .ok (.istore 4, 2) by decide +kernel)
theorem k62_8 : wp X 62 8 L S E I J R Q = zli L 4 (fun x => wp X 62 10 L (.int x :: S) E I J R Q) := we_iload (show decode (mB 62) 8 = .ok (.iload 4, 2) by decide +kernel)
theorem k62_10 : wp X 62 10 L S E I J R Q = wp X 62 11 L (.int (-1) :: S) E I J R Q := we_iconst (show decode (mB 62) 10 = .ok (.iconst (-1), 1) by decide +kernel) (by decide)
theorem k62_11 {x y : Int32} : wp X 62 11 L (.int y :: .int x :: S) E I J R Q = ((x = y → wp X 62 14 L S E I J R Q) ∧ (¬ x = y → wp X 62 23 L S E I J R Q)) := we_ic_ne (show decode (mB 62) 11 = .ok (.if_icmp .ne 12, 3) by decide +kernel) (by decide)
theorem k62_14 : wp X 62 14 L S E I J R Q = zla L 0 (fun x => wp X 62 15 L (x :: S) E I J R Q) := we_aload_n (show decode (mB 62) 14 = .ok (.aload_n 0, 1) by decide +kernel)
theorem k62_15 : wp X 62 15 L S E I J R Q = zll L 1 (fun x => wp X 62 16 L (.long x :: S) E I J R Q) := we_lload_n (show decode (mB 62) 15 = .ok (.lload_n 1, 1) by decide +kernel)
theorem k62_16 : wp X 62 16 L S E I J R Q = zli L 3 (fun x => wp X 62 17 L (.int x :: S) E I J R Q) := we_iload_n (show decode (mB 62) 16 = .ok (.iload_n 3, 1) by decide +kernel)
theorem k62_17 {o : Nat} {a0 : Int64} {a1 : Int32} : wp X 62 17 L (.int a1 :: .long a0 :: .ref o :: S) E I J R Q = ((zC E o 1 ∧ tm_wt S ≤ 8 ∧ tm_wt [.ref o, .long a0, .int a1] ≤ 4) ∧ cwk X 38 [.ref o, .long a0, .int a1] E I J R 62 20 L S Q) := we_cv (y := 38) (as := [.long a0, .int a1]) (show decode (mB 62) 17 = .ok (.invokevirtual 27, 3) by decide +kernel) (by decide) (by decide) rfl (by decide) ⟨by decide, by decide⟩
theorem k62_20 : wp X 62 20 L S E I J R Q = wp X 62 25 L S E I J R Q := we_goto (show decode (mB 62) 20 = .ok (.goto 5, 3) by decide +kernel) (by decide)
theorem k62_23 : wp X 62 23 L S E I J R Q = zli L 4 (fun x => wp X 62 25 L (.int x :: S) E I J R Q) := we_iload (show decode (mB 62) 23 = .ok (.iload 4, 2) by decide +kernel)
theorem k62_25 {x : Int32} : wp X 62 25 L [.int x] E I J R Q = Q (some (.int x)) E I J R := we_reti (show decode (mB 62) 25 = .ok (.ireturn, 1) by decide +kernel) rfl
end KC
