/-! the calls that read a text, class and model -/
theorem zop_no {α : Type} (f : Nat → Option α) (hs : ∀ k, f k = none → f (k + 1) = none) {k k' : Nat} {e' : α} (h1 : f (k + 1) = none) (h' : f k' = some e') : k' ≤ k := by
  rcases Nat.lt_or_ge k k' with q | q
  · exfalso
    have h0 : ∀ d, f (k + 1 + d) = none := by
      intro d
      induction d with
      | zero => exact h1
      | succ d ih => exact hs _ ih
    have h2 := h0 (k' - (k + 1))
    have h3 : k + 1 + (k' - (k + 1)) = k' := by omega
    rw [h3, h'] at h2
    cases h2
  · exact q
section NO
variable {sc : Nat} {sn : Nat → List Nat} {sa : Nat → Nat} {nm : Nat → List Nat} {iv : Nat → Bool} {pa so : Nat → Nat} {k : Nat}
theorem zte_n (h : zte sc sn sa nm iv pa k = none) : zte sc sn sa nm iv pa (k + 1) = none := by
  simp only [zte]
  rw [h]
theorem zte_f {e : tVr} (h : zte sc sn sa nm iv pa k = some e) (h1 : zte1 sc sn sa (nm k) (iv k) (pa k) k e = none) : zte sc sn sa nm iv pa (k + 1) = none := by
  simp only [zte]
  rw [h]
  exact h1
theorem zbd_n (h : zbd nm iv pa so k = none) : zbd nm iv pa so (k + 1) = none := by
  simp only [zbd]
  rw [h]
theorem zbd_f {B : tB} (h : zbd nm iv pa so k = some B) (h1 : zbt (nm k) (iv k) (pa k) (so k) B = none) : zbd nm iv pa so (k + 1) = none := by
  simp only [zbd]
  rw [h]
  exact h1
end NO
theorem zTe_ku {K : tK} {b : Nat → Nat} {n : Nat} {s : tP} {k k' : Nat} {e e' : tVr} (h : zTe K b n s k = some e) (h1 : zTe1 K b n s k e = none) (h' : zTe K b n s k' = some e') : k' ≤ k := zop_no (zTe K b n s) (fun _ hk => zte_n hk) (zte_f h h1) h'
theorem zbd_ku {nm : Nat → List Nat} {iv : Nat → Bool} {pa so : Nat → Nat} {k k' : Nat} {B B' : tB} (h : zbd nm iv pa so k = some B) (h1 : zbt (nm k) (iv k) (pa k) (so k) B = none) (h' : zbd nm iv pa so k' = some B') : k' ≤ k := zop_no (zbd nm iv pa so) (fun _ hk => zbd_n hk) (zbd_f h h1) h'
theorem zZs_n {o : Nat} (h : o ≠ 240 ∧ (o < 242 ∨ 247 < o) ∧ (o < 265 ∨ 269 < o) ∧ o ≠ 274) : zZs o = false := by
  simp only [zZs, zYs, Bool.or_eq_false_iff, Bool.and_eq_false_iff, decide_eq_false_iff_not, beq_eq_false_iff_ne]
  omega
theorem zZf_n {k : Nat} (h : k = 16 ∨ k = 21 ∨ k = 28 ∨ k = 29 ∨ k = 45 ∨ k = 47 ∨ k = 59 ∨ k = 60 ∨ k = 69) : zZf k = false := by
  rcases h with h | h | h | h | h | h | h | h | h <;> subst h <;> rfl
section OPS3
variable {X : tX} {hp sp tp : Nat} {I I' : tI} {J J' : tJ} {K K' : tK} {m : Nat} {b : Nat → Nat} {W : List Nat} {Ro Ro' : tRo} {p : Int32}
theorem zCi_R (hK : zKv K) (h : zCi K m b W Ro p I J) (f : zfRd I J I' J') (h1 : I' 0 1 = nI 0) (hR : zRb K Ro' I') : zCi K 0 b W Ro' (I' 0 2) I' J' := by
  obtain ⟨c1, c2, c3, c4, c5, c6, c7, c8, c9⟩ := h
  exact ⟨zKC_in hK c1 (fun o o1 o2 => f.1 o (by omega) (by omega) (by omega) (by omega)) (f.2.1 _ (by decide) (by decide) (by decide)), h1, fun i hi => absurd hi (Nat.not_lt_zero _), uFk_o c4 (fun o o1 o2 => f.1 o (by omega) (by omega) (by omega) (by omega)), uOC_o c5 (fun o o1 o2 => f.1 o (by omega) (by omega) (by omega) (by omega)), uSC_o c6 (f.2.2 _ (by decide) (by decide) (by decide)), zWb_o c7 (f.2.2 _ (by decide) (by decide) (by decide)) (f.1 _ (by omega) (by omega) (by omega) (by omega)), hR, rfl⟩
theorem zCi_S (hK : zKv K) (h : zCi K m b W Ro p I J) (f : zfS I J I' J') (h1 : I' 0 1 = nI 0) : zCi K 0 b W Ro (I' 0 2) I' J' :=
  zCi_R hK h ⟨fun o o1 o2 o3 _ => f.1 o o1 o2 o3, f.2.1, fun k k1 k2 _ => f.2.2 k k1 k2⟩ h1 (zRb_fr h.2.2.2.2.2.2.2.1 (f.2.2 _ (by decide) (by decide)) (f.1 _ (by omega) (by omega) (by omega)))
theorem zMi_R (h : zMi K m b W Ro p I) (f : zfR2 I I') (h1 : I' 240 1 = nI 0) (hR : zRm K Ro' I') : zMi K 0 b W Ro' (I' 240 2) I' := by
  obtain ⟨m1, m2, m3, m4, m5, m6, m7, m8⟩ := h
  have g : ∀ k, k = 16 ∨ k = 21 ∨ k = 28 ∨ k = 29 ∨ k = 59 ∨ k = 60 ∨ k = 69 → I' 240 k = I 240 k := fun k hk => f.2 k (zZf_n (by omega)) (by omega) (by omega)
  exact ⟨zKM_a m1 (fun o o1 o2 => f.1 o (by omega) (by omega) (by omega)) (fun k hk => g k (by omega)), h1, fun i hi => absurd hi (Nat.not_lt_zero _), uMn_o m4 (fun o o1 o2 => f.1 o (by omega) (by omega) (by omega)) (fun k hk => g k (by omega)), uOM_o m5 (f.1 _ (by omega) (by omega) (by omega)) (fun k hk => g k (by omega)), zMp_fr m6 (g _ (by omega)) (f.1 _ (by omega) (by omega) (by omega)), hR, rfl⟩
theorem zMi_Z (h : zMi K m b W Ro p I) (f : zfZ I I') (h1 : I' 240 1 = nI 0) : zMi K 0 b W Ro (I' 240 2) I' := by
  obtain ⟨m1, m2, m3, m4, m5, m6, m7, m8⟩ := h
  have g : ∀ k, k = 16 ∨ k = 21 ∨ k = 28 ∨ k = 29 ∨ k = 45 ∨ k = 47 ∨ k = 59 ∨ k = 60 ∨ k = 69 → I' 240 k = I 240 k := fun k hk => f.2 k (zZf_n hk)
  exact ⟨zKM_a m1 (fun o o1 o2 => f.1 o (zZs_n (by omega))) (fun k hk => g k (by omega)), h1, fun i hi => absurd hi (Nat.not_lt_zero _), uMn_o m4 (fun o o1 o2 => f.1 o (zZs_n (by omega))) (fun k hk => g k (by omega)), uOM_o m5 (f.1 _ (zZs_n (by omega))) (fun k hk => g k (by omega)), zMp_fr m6 (g _ (by omega)) (f.1 _ (zZs_n (by omega))), zRm_fr m7 (fun k hk => g k (by omega)) (fun o o1 o2 => f.1 o (zZs_n (by omega))), rfl⟩
theorem zCi_U (h : zCi K m b W Ro p I J) (hc : zKC K' I' J') (hl : zCl I') (f : zfU I J I' J') : zCi K' 0 b W none (I' 0 2) I' J' := by
  obtain ⟨c1, c2, c3, c4, c5, c6, c7, c8, c9⟩ := h
  obtain ⟨l1, l2, l3, l4, l5⟩ := hl
  exact ⟨hc, l1, fun i hi => absurd hi (Nat.not_lt_zero _), Or.inl l3, Or.inl l2, Or.inl l4, zWb_o c7 (f.2.2.1 _ (by decide) (by decide) (by decide) (by decide)) (f.1 _ (by decide)), l5, rfl⟩
theorem zMi_V (h : zMi K m b W Ro p I) (hc : zKM K' I') (hl : zMl I') (f : zfV I I') : zMi K' 0 b W none (I' 240 2) I' := by
  obtain ⟨m1, m2, m3, m4, m5, m6, m7, m8⟩ := h
  obtain ⟨l1, l2, l3, l4⟩ := hl
  exact ⟨hc, l1, fun i hi => absurd hi (Nat.not_lt_zero _), Or.inl l3, Or.inl l2, zMp_fr m6 (f.2 _ (by decide)) (f.1 _ (by decide)), l4, rfl⟩
def zK0 : tK := (0, 0, fun _ => [], fun _ => 0, fun _ => .leaf (), fun _ => 0, fun _ _ => 0)
theorem zK0_v : zKv zK0 := ⟨Nat.zero_le _, Nat.zero_le _, fun i hi => absurd hi (Nat.not_lt_zero _), fun s hs => absurd hs (Nat.not_lt_zero _), fun r hr => absurd hr (Nat.not_lt_zero _)⟩
theorem zK0_C (h1 : I 11 3 = nI 0) (h2 : I 13 2 = nI 0) : zKC zK0 I J := ⟨h1, ⟨h2, fun i hi => absurd hi (Nat.not_lt_zero _)⟩, fun r hr => absurd hr (Nat.not_lt_zero _)⟩
theorem zK0_M (h1 : I 240 16 = nI 0) (h2 : I 240 21 = nI 0) : zKM zK0 I := ⟨h1, h2, fun i hi => absurd hi (Nat.not_lt_zero _), fun i hi => absurd hi (Nat.not_lt_zero _), fun r hr => absurd hr (Nat.not_lt_zero _)⟩
end OPS3
