/-! rules, class and model -/
section OPS7
variable {X : tX} {hp sp tp : Nat} {I I' : tI} {J J' : tJ} {K K' : tK} {m : Nat} {b : Nat → Nat} {W : List Nat} {Ro Ro' : tRo} {p : Int32}
theorem z_rules {x : Int32} (h : zIn I J hp sp) : cwp X 13 [.ref 0, .int x] zE I J (zR hp sp tp) (zPo X 113 [.ref 240, .int x]) := by
  obtain ⟨K, m, b, W, Ro, p, hK, hm, hb, hh, hC, hM⟩ := id h
  rcases zof_n x m with ⟨n, hn, rfl⟩ | hx
  · have hb' : ∀ j, j < n → b j < 256 := fun j hj => hb j (by omega)
    have oz : ∀ o, 240 ≤ o → zRu o = false := fun o ho => by
      simp only [zRu, Bool.or_eq_false_iff, Bool.and_eq_false_iff, decide_eq_false_iff_not, beq_eq_false_iff_ne]
      omega
    have ov : ∀ o, o < 240 → zVs o = false := fun o ho => by
      simp only [zVs, Bool.and_eq_false_iff, decide_eq_false_iff_not]
      omega
    have fin : ∀ K' I1 J1 I2, zKv K' → zKC K' I1 J1 → zCl I1 → zfU I J I1 J1 → zKM K' I2 → zMl I2 → zfV I1 I2 → I2 240 2 = I1 0 2 → zIn I2 J1 hp sp := by
      intro K' I1 J1 I2 hK' C1 l1 f1 M2' l2 f2 q
      have e : ∀ o, o < 240 → I2 o = I1 o := fun o ho => f2.1 o (ov o ho)
      have M2 := zMi_V (zMi_s hM (I' := I1) (fun o ho => f1.1 o (oz o ho))) M2' l2 f2
      rw [q] at M2
      exact ⟨K', 0, b, W, none, I1 0 2, hK', Nat.zero_le _, fun j hj => absurd hj (Nat.not_lt_zero _), hh, zCi_s hK' (zCi_U hC C1 l1 f1) e, M2⟩
    have sz : ∀ I1 J1, zfU I J I1 J1 → (∀ i, i < n → I1 241 i = nI (b i)) ∧ I1 240 1 = nI m := fun I1 J1 f => by
      have e : ∀ o, 240 ≤ o → I1 o = I o := fun o ho => f.1 o (oz o ho)
      have M1 := zMi_s hM e
      exact ⟨fun i hi => M1.2.2.1 i (by omega), M1.2.1⟩
    refine c_Tr_rules (by omega) hb' (fun i hi => hC.2.2.1 i (by omega)) ⟨m, hn, hm, hC.2.1⟩ (fun j s I1 J1 q1 q2 q3 q4 q5 q6 q7 => ⟨_, rfl, rfl, ?_⟩) (fun j st d sd c op pa nt so k B I1 J1 q1 q2 q3 q4 q5 q6 q7 q8 q9 q10 => ⟨_, rfl, rfl, ?_⟩) (fun j st d rd c op pa nt so B I1 J1 q1 q2 q3 q4 q5 q6 q7 q8 => ⟨_, rfl, rfl, ?_⟩)
    · obtain ⟨z2, z3⟩ := sz I1 J1 q7
      refine c_Md_rules (by omega) hb' z2 ⟨m, hn, hm, z3⟩ (fun j' s' I2 r1 r2 r3 r4 r5 r6 r7 => ?_) (fun j' st' d' sd' c' op' pa' nt' so' k' B' I2 r1 r2 r3 r4 r5 r6 r7 r8 r9 r10 => ?_) (fun j' st' d' rd' c' op' pa' nt' so' B' I2 r1 r2 r3 r4 r5 r6 r7 r8 => ?_)
      · obtain ⟨ej, es⟩ := zrd_uni q1 r1
        subst ej es
        exact ⟨rfl, rfl, hp, sp, 1, rfl, fin zK0 I1 J1 I2 zK0_v (zK0_C q3 q4) q5 q7 (zK0_M r3 r4) r5 r7 (by rw [r6, q6])⟩
      · obtain ⟨ej, es⟩ := zrd_uni q1 r1
        subst ej es
        rw [q2] at r2; cases r2
      · obtain ⟨ej, es⟩ := zrd_uni q1 r1
        subst ej es
        rw [q2] at r2; cases r2
    · obtain ⟨z2, z3⟩ := sz I1 J1 q10
      refine c_Md_rules (by omega) hb' z2 ⟨m, hn, hm, z3⟩ (fun j' s' I2 r1 r2 r3 r4 r5 r6 r7 => ?_) (fun j' st' d' sd' c' op' pa' nt' so' k' B' I2 r1 r2 r3 r4 r5 r6 r7 r8 r9 r10 => ?_) (fun j' st' d' rd' c' op' pa' nt' so' B' I2 r1 r2 r3 r4 r5 r6 r7 r8 => ?_)
      · obtain ⟨ej, es⟩ := zrd_uni q1 r1
        subst ej es
        rw [q2] at r2; cases r2
      · obtain ⟨ej, es⟩ := zrd_uni q1 r1
        subst ej
        cases es
        have k1 := zbd_ku q4 q5 r4
        have k2 := zbd_ku r4 r5 q4
        have ek : k' = k := by omega
        subst ek
        exact ⟨rfl, rfl, hp, sp, 1, rfl, fin zK0 I1 J1 I2 zK0_v (zK0_C q6 q7) q8 q10 (zK0_M r6 r7) r8 r10 (by rw [r9, q9])⟩
      · obtain ⟨ej, es⟩ := zrd_uni q1 r1
        subst ej
        cases es
        have k1 := zbd_ku q4 q5 r3
        omega
    · obtain ⟨z2, z3⟩ := sz I1 J1 q8
      refine c_Md_rules (by omega) hb' z2 ⟨m, hn, hm, z3⟩ (fun j' s' I2 r1 r2 r3 r4 r5 r6 r7 => ?_) (fun j' st' d' sd' c' op' pa' nt' so' k' B' I2 r1 r2 r3 r4 r5 r6 r7 r8 r9 r10 => ?_) (fun j' st' d' rd' c' op' pa' nt' so' B' I2 r1 r2 r3 r4 r5 r6 r7 r8 => ?_)
      · obtain ⟨ej, es⟩ := zrd_uni q1 r1
        subst ej es
        rw [q2] at r2; cases r2
      · obtain ⟨ej, es⟩ := zrd_uni q1 r1
        subst ej
        cases es
        have k1 := zbd_ku r4 r5 q3
        omega
      · obtain ⟨ej, es⟩ := zrd_uni q1 r1
        subst ej
        simp only [Prod.mk.injEq] at es
        obtain ⟨e1, e2, e3, e4, e5, e6, e7, e8⟩ := es
        have erd : rd' = rd := by omega
        subst e1 e2 erd e4 e5 e6 e7 e8
        rw [q3] at r3
        cases r3
        exact ⟨rfl, rfl, hp, sp, 1, rfl, fin _ I1 J1 I2 q4 q5 q6 q8 r5 r6 r8 (by rw [r7, q7])⟩
  · exact z_bad_rules h hC.2.1 hM.2.1 hm hx
end OPS7
