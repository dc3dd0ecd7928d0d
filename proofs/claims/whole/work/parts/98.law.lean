theorem tm_law (L : Nat) (xs : Nat → Int32) (hL : L ≤ 3072) : ∃ n M', tm_run (L, xs) n 180 0 (tm_ent 180 [.retAddr 0]) [] tm_M0 = some (some (.int 1), M') ∧ M'.1.1 ≤ 600000 ∧ M'.1.2.1 ≤ 7302250 := by
  obtain ⟨n, r, M', h1, h2, h3⟩ := z_law (X := (L, xs)) hL zB_240
  subst h2
  refine ⟨n, M', h1, ?_, ?_⟩
  · rw [h3, zchk_ok.1.1]; decide
  · rw [h3, zchk_ok.1.2]; decide
