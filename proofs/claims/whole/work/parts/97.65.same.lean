/-! same, class and model -/
section OPS5
variable {X : tX} {hp sp tp : Nat} {I I' : tI} {J J' : tJ} {K K' : tK} {m : Nat} {b : Nat → Nat} {W : List Nat} {Ro Ro' : tRo} {p : Int32}
theorem zof_n (x : Int32) (m : Nat) : (∃ n, n ≤ m ∧ x = nI n) ∨ x < 0 ∨ ∃ k, k < 2147483648 ∧ m < k ∧ x = nI k := by
  rcases zof x with hx | ⟨k, hk, rfl⟩
  · exact Or.inr (Or.inl hx)
  · rcases Nat.lt_or_ge m k with q | q
    · exact Or.inr (Or.inr ⟨k, hk, q, rfl⟩)
    · exact Or.inl ⟨k, q, rfl⟩
theorem z_same {x : Int32} (h : zIn I J hp sp) : cwp X 81 [.ref 0, .int x] zE I J (zR hp sp tp) (zPo X 153 [.ref 240, .int x]) := by
  obtain ⟨K, m, b, W, Ro, p, hK, hm, hb, hh, hC, hM⟩ := id h
  rcases zof_n x m with ⟨n, hn, rfl⟩ | hx
  · have hb' : ∀ j, j < n → b j < 256 := fun j hj => hb j (by omega)
    have fin : ∀ hp' sp' I1 J1 I2, ((hp' = 208 ∧ sp' = 209) ∨ (hp' = 209 ∧ sp' = 208)) → zfS I J I1 J1 → I1 0 1 = nI 0 → zfZ I1 I2 → I2 240 1 = nI 0 → I2 240 2 = I1 0 2 → zIn I2 J1 hp' sp' := by
      intro hp' sp' I1 J1 I2 hh' f1 n1 f2 n2 q
      have e : ∀ o, o < 240 → I2 o = I1 o := fun o ho => f2.1 o (zZs_n (by omega))
      have M2 := zMi_Z (zMi_s hM (I' := I1) (fun o ho => f1.1 o (by omega) (by omega) (by omega))) f2 n2
      rw [q] at M2
      exact ⟨K, 0, b, W, Ro, I1 0 2, hK, Nat.zero_le _, fun j hj => absurd hj (Nat.not_lt_zero _), hh', zCi_s hK (zCi_S hK hC f1 n1) e, M2⟩
    have sz : ∀ I1 J1, zfS I J I1 J1 → zKM K I1 ∧ (∀ i, i < n → I1 241 i = nI (b i)) ∧ I1 240 1 = nI m := fun I1 J1 f => by
      have e : ∀ o, 240 ≤ o → I1 o = I o := fun o ho => f.1 o (by omega) (by omega) (by omega)
      have M1 := zMi_s hM e
      exact ⟨M1.1, fun i hi => M1.2.2.1 i (by omega), M1.2.1⟩
    refine c_Tr_same hh hK hC.1 (by omega) hb' (fun i hi => hC.2.2.1 i (by omega)) ⟨m, hn, hm, hC.2.1⟩ (fun j s I1 J1 q1 q2 q3 q4 q5 => ⟨_, rfl, rfl, ?_⟩) (fun j s k e I1 J1 q1 q2 q3 q4 q5 q6 q7 q8 => ⟨_, rfl, rfl, ?_⟩) (fun hp' sp' j s e I1 J1 hh' q1 q2 q3 q4 q5 q6 => ⟨_, rfl, rfl, ?_⟩)
    · obtain ⟨z1, z2, z3⟩ := sz I1 J1 q5
      refine c_Md_same hK z1 (by omega) hb' z2 ⟨m, hn, hm, z3⟩ (fun j' s' I2 r1 r2 r3 r4 r5 => ?_) (fun j' s' k' e' I2 r1 r2 r3 r4 r5 r6 r7 r8 => ?_) (fun j' s' e' I2 r1 r2 r3 r4 r5 r6 => ?_)
      · obtain ⟨ej, es⟩ := zrd_uni q1 r1
        subst ej es
        exact ⟨rfl, rfl, hp, sp, 1, rfl, fin hp sp I1 J1 I2 hh q5 q3 r5 r3 (by rw [r4, q4])⟩
      · obtain ⟨ej, es⟩ := zrd_uni q1 r1
        subst ej es
        rw [q2] at r2; cases r2
      · obtain ⟨ej, es⟩ := zrd_uni q1 r1
        subst ej es
        rw [q2] at r2; cases r2
    · obtain ⟨z1, z2, z3⟩ := sz I1 J1 q8
      refine c_Md_same hK z1 (by omega) hb' z2 ⟨m, hn, hm, z3⟩ (fun j' s' I2 r1 r2 r3 r4 r5 => ?_) (fun j' s' k' e' I2 r1 r2 r3 r4 r5 r6 r7 r8 => ?_) (fun j' s' e' I2 r1 r2 r3 r4 r5 r6 => ?_)
      · obtain ⟨ej, es⟩ := zrd_uni q1 r1
        subst ej es
        rw [q2] at r2; cases r2
      · obtain ⟨ej, es⟩ := zrd_uni q1 r1
        subst ej es
        have k1 := zTe_ku q4 q5 r4
        have k2 := zTe_ku r4 r5 q4
        have ek : k' = k := by omega
        subst ek
        exact ⟨rfl, rfl, hp, sp, 1, rfl, fin hp sp I1 J1 I2 hh q8 q6 r8 r6 (by rw [r7, q7])⟩
      · obtain ⟨ej, es⟩ := zrd_uni q1 r1
        subst ej es
        have k1 := zTe_ku q4 q5 r3
        omega
    · obtain ⟨z1, z2, z3⟩ := sz I1 J1 q6
      refine c_Md_same hK z1 (by omega) hb' z2 ⟨m, hn, hm, z3⟩ (fun j' s' I2 r1 r2 r3 r4 r5 => ?_) (fun j' s' k' e' I2 r1 r2 r3 r4 r5 r6 r7 r8 => ?_) (fun j' s' e' I2 r1 r2 r3 r4 r5 r6 => ?_)
      · obtain ⟨ej, es⟩ := zrd_uni q1 r1
        subst ej es
        rw [q2] at r2; cases r2
      · obtain ⟨ej, es⟩ := zrd_uni q1 r1
        subst ej es
        have k1 := zTe_ku r4 r5 q3
        omega
      · obtain ⟨ej, es⟩ := zrd_uni q1 r1
        subst ej es
        rw [q3] at r3
        cases r3
        exact ⟨rfl, rfl, hp', sp', 1, rfl, fin hp' sp' I1 J1 I2 hh' q6 q4 r6 r4 (by rw [r5, q5])⟩
  · exact z_bad_same h hC.2.1 hM.2.1 hm hx
end OPS5
