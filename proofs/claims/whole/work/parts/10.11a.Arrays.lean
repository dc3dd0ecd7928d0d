section KC
variable {X : tX} {L : tL} {S : List Value} {E : tE} {I : tI} {J : tJ} {R : tR} {Q : tQ}
/-! 49 Arrays_fill -/
theorem k49_0 : wp X 49 0 L S E I J R Q = wp X 49 1 L (.int (nI 0) :: S) E I J R Q := we_iconst (show decode (mB 49) 0 = .ok (.iconst 0, 1) by decide +kernel) (by decide)
theorem k49_1 {x : Int32} : wp X 49 1 L (.int x :: S) E I J R Q = zst L 3 (.int x) (fun L => wp X 49 2 L S E I J R Q) := we_istore_n (show decode (mB 49) 1 = .ok (.istore_n 3, 1) by decide +kernel)
theorem k49_2 : wp X 49 2 L S E I J R Q = zla L 0 (fun x => wp X 49 3 L (x :: S) E I J R Q) := we_aload_n (show decode (mB 49) 2 = .ok (.aload_n 0, 1) by decide +kernel)
theorem k49_3 {o : Nat} : wp X 49 3 L (.ref o :: S) E I J R Q = ((o < E.1 ∧ 100 ≤ (E.2.2 o).1 ∧ (E.2.2 o).1 ≤ 104) ∧ wp X 49 4 L (.int (nI (E.2.2 o).2) :: S) E I J R Q) := we_alen (show decode (mB 49) 3 = .ok (.arraylength, 1) by decide +kernel)
theorem k49_4 {x : Int32} : wp X 49 4 L (.int x :: S) E I J R Q = zst L 4 (.int x) (fun L => wp X 49 6 L S E I J R Q) := we_istore (show decode (mB 49) 4 = .ok (.istore 4, 2) by decide +kernel)
theorem k49_6 : wp X 49 6 L S E I J R Q = zli L 3 (fun x => wp X 49 7 L (.int x :: S) E I J R Q) := we_iload_n (show decode (mB 49) 6 = .ok (.iload_n 3, 1) by decide +kernel)
theorem k49_7 : wp X 49 7 L S E I J R Q = zli L 4 (fun x => wp X 49 9 L (.int x :: S) E I J R Q) := we_iload (show decode (mB 49) 7 = .ok (.iload 4, 2) by decide +kernel)
theorem k49_9 {x y : Int32} : wp X 49 9 L (.int y :: .int x :: S) E I J R Q = ((y ≤ x → wp X 49 22 L S E I J R Q) ∧ (¬ y ≤ x → wp X 49 12 L S E I J R Q)) := we_ic_ge (show decode (mB 49) 9 = .ok (.if_icmp .ge 13, 3) by decide +kernel) (by decide)
theorem k49_12 : wp X 49 12 L S E I J R Q = zla L 0 (fun x => wp X 49 13 L (x :: S) E I J R Q) := we_aload_n (show decode (mB 49) 12 = .ok (.aload_n 0, 1) by decide +kernel)
theorem k49_13 : wp X 49 13 L S E I J R Q = zli L 3 (fun x => wp X 49 14 L (.int x :: S) E I J R Q) := we_iload_n (show decode (mB 49) 13 = .ok (.iload_n 3, 1) by decide +kernel)
theorem k49_14 : wp X 49 14 L S E I J R Q = zll L 1 (fun x => wp X 49 15 L (.long x :: S) E I J R Q) := we_lload_n (show decode (mB 49) 14 = .ok (.lload_n 1, 1) by decide +kernel)
theorem k49_15 {o : Nat} {i : Int32} {x : Int64} : wp X 49 15 L (.long x :: .int i :: .ref o :: S) E I J R Q = (zA E o 103 i ∧ wp X 49 16 L S E I (va_up J o (va_up (J o) i.toNatClampNeg x)) R Q) := we_lastore (show decode (mB 49) 15 = .ok (.lastore, 1) by decide +kernel)
theorem k49_16 : wp X 49 16 L S E I J R Q = zli L 3 (fun x => zst L 3 (.int (x + (nI 1))) (fun L => wp X 49 19 L S E I J R Q)) := we_iinc (show decode (mB 49) 16 = .ok (.iinc 3 1, 3) by decide +kernel) (by decide)
theorem k49_19 : wp X 49 19 L S E I J R Q = wp X 49 6 L S E I J R Q := we_goto (show decode (mB 49) 19 = .ok (.goto (-13), 3) by decide +kernel) (by decide)
theorem k49_22 : wp X 49 22 L [] E I J R Q = Q none E I J R := we_retv (show decode (mB 49) 22 = .ok (.return_, 1) by decide +kernel) rfl
end KC
