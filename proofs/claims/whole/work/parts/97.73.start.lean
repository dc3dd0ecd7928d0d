/-! the law from its start -/
theorem zR_0 : zR0 = zR 208 209 4 := by
  funext o k
  by_cases h3 : o = 3
  · subst h3
    by_cases hk : k = 0
    · subst hk
      rw [zrr 20 (o := 3) (k := 0) (a := 4) rfl, zR, zu_s, zu_s]
    · rw [zR, zu_s, zu_n hk]
  · by_cases h7 : o = 207
    · subst h7
      rw [zR, zu_n (by decide), zu_s]
      by_cases hk3 : k = 3
      · subst hk3
        rw [zrr 213 (o := 207) (k := 3) (a := 209) rfl, zu_s]
      · rw [zu_n hk3]
        by_cases hk2 : k = 2
        · subst hk2
          rw [zrr 212 (o := 207) (k := 2) (a := 208) rfl, zu_s]
        · rw [zu_n hk2]
    · rw [zR, zu_n h3, zu_n h7]
theorem zIn_0 : zIn zI0 zJ0 208 209 := by
  have n0 : (0 : Int32) = nI 0 := rfl
  refine ⟨zK0, 0, fun _ => 0, [], none, -1, zK0_v, Nat.zero_le _, fun j hj => absurd hj (Nat.not_lt_zero _), Or.inl ⟨rfl, rfl⟩, ⟨zK0_C ?_ ?_, ?_, fun i hi => absurd hi (Nat.not_lt_zero _), Or.inl ?_, Or.inl ?_, Or.inl ?_, ⟨?_, Nat.zero_le _, fun i hi => absurd hi (Nat.not_lt_zero _), fun b hb => (by cases hb)⟩, ?_, ?_⟩, ⟨zK0_M ?_ ?_, ?_, fun i hi => absurd hi (Nat.not_lt_zero _), Or.inl ?_, Or.inl ?_, ⟨?_, fun i hi => absurd hi (Nat.not_lt_zero _)⟩, ?_, ?_⟩⟩
  · exact (zii 15 (o := 11) (k := 3) (x := 0) rfl).trans n0
  · exact (zii 16 (o := 13) (k := 2) (x := 0) rfl).trans n0
  · exact (zii 0 (o := 0) (k := 1) (x := 0) rfl).trans n0
  · exact (zii 86 (o := 223) (k := 0) (x := 0) rfl).trans n0
  · exact (zii 84 (o := 217) (k := 0) (x := 0) rfl).trans n0
  · exact zii 4 (o := 0) (k := 17) (x := -5) rfl
  · exact (zii 3 (o := 0) (k := 16) (x := 0) rfl).trans n0
  · exact zii 2 (o := 0) (k := 14) (x := -1) rfl
  · exact zii 1 (o := 0) (k := 2) (x := -1) rfl
  · exact (zii 100 (o := 240) (k := 16) (x := 0) rfl).trans n0
  · exact (zii 101 (o := 240) (k := 21) (x := 0) rfl).trans n0
  · exact (zii 93 (o := 240) (k := 1) (x := 0) rfl).trans n0
  · exact (zii 113 (o := 240) (k := 59) (x := 0) rfl).trans n0
  · exact (zii 103 (o := 240) (k := 28) (x := 0) rfl).trans n0
  · exact (zii 117 (o := 240) (k := 69) (x := 0) rfl).trans n0
  · exact (zii 109 (o := 240) (k := 45) (x := 0) rfl).trans n0
  · exact zii 94 (o := 240) (k := 2) (x := -1) rfl
theorem z_make1 {X : tX} {Q : tQ} (h : Q none zB.1 zB.2.1 zB.2.2.1 zB.2.2.2) : cwp X 0 [.ref 0] zMa.1 zMa.2.1 zMa.2.2.1 zMa.2.2.2 Q := by
  have h1 : tm_run zX0 1000 0 0 (tm_ent 0 [.ref 0]) [] zMa = some (none, zB) := zex1.1
  exact ⟨1000, none, zB, (zrun_ind (X := zX0) (X' := X) _ _ _ _ _ _ _ _ (zn_ent (znS_c.mpr ⟨rfl, znS_0⟩)) znS_0 h1).1, h⟩
theorem z_make2 {X : tX} {Q : tQ} (h : Q none zE zI0 zJ0 zR0) : cwp X 110 [.ref 240] (tm_new zB 11 73).1 (tm_new zB 11 73).2.1 (tm_new zB 11 73).2.2.1 (tm_new zB 11 73).2.2.2 Q := by
  exact ⟨1000, none, zM1, (zrun_ind (X := zX0) (X' := X) _ _ _ _ _ _ _ _ (zn_ent (znS_c.mpr ⟨rfl, znS_0⟩)) znS_0 zex1.2.1).1, h⟩
theorem z_law {X : tX} (hL : X.1 ≤ 3072) (hB : zB.1.1 = 240) : wp X 180 0 [some (.retAddr 0), none, none, none] [] tm_M0.1 tm_M0.2.1 tm_M0.2.2.1 tm_M0.2.2.2 zEnd := by
  have hC : zC zE 0 10 = True := zc_0
  rw [k180_0, k180_3]
  refine ⟨rfl, ?_⟩
  show wp X 180 4 [some (.retAddr 0), none, none, none] [.ref 0, .ref 0] zMa.1 zMa.2.1 zMa.2.2.1 zMa.2.2.2 zEnd
  rw [k180_4]
  refine ⟨by decide, z_make1 ?_⟩
  show wp X 180 7 [some (.retAddr 0), none, none, none] [.ref 0] zB.1 zB.2.1 zB.2.2.1 zB.2.2.2 zEnd
  rw [k180_7]
  show wp X 180 8 [some (.retAddr 0), some (.ref 0), none, none] [] zB.1 zB.2.1 zB.2.2.1 zB.2.2.2 zEnd
  rw [k180_8, hB, k180_11]
  refine ⟨rfl, ?_⟩
  show wp X 180 12 [some (.retAddr 0), some (.ref 0), none, none] [.ref 240, .ref 240] (tm_new zB 11 73).1 (tm_new zB 11 73).2.1 (tm_new zB 11 73).2.2.1 (tm_new zB 11 73).2.2.2 zEnd
  rw [k180_12]
  refine ⟨by decide, z_make2 ?_⟩
  show wp X 180 15 [some (.retAddr 0), some (.ref 0), none, none] [.ref 240] zE zI0 zJ0 zR0 zEnd
  rw [k180_15]
  show wp X 180 16 [some (.retAddr 0), some (.ref 0), some (.ref 240), none] [] zE zI0 zJ0 zR0 zEnd
  rw [zR_0, k180_16, k180_17]
  show wp X 180 18 [some (.retAddr 0), some (.ref 0), some (.ref 240), some (.int (nI 0))] [] zE zI0 zJ0 (zR 208 209 4) zEnd
  exact l_law hL X.1 0 208 209 4 zI0 zJ0 (by omega) (Or.inl rfl) zIn_0
