/-! what class and model have in common, between the calls -/
abbrev tRo : Type := Option (List Nat × (Nat → List Nat))
def zCi (K : tK) (m : Nat) (b : Nat → Nat) (W : List Nat) (Ro : tRo) (p : Int32) (I : tI) (J : tJ) : Prop := zKC K I J ∧ I 0 1 = nI m ∧ (∀ i, i < m → I 1 i = sb_b (b i)) ∧ uFk K I ∧ uOC K I ∧ uSC K I ∧ zWb W I ∧ zRb K Ro I ∧ I 0 2 = p
def zMi (K : tK) (m : Nat) (b : Nat → Nat) (W : List Nat) (Ro : tRo) (p : Int32) (I : tI) : Prop := zKM K I ∧ I 240 1 = nI m ∧ (∀ i, i < m → I 241 i = nI (b i)) ∧ uMn K I ∧ uOM K I ∧ zMp W I ∧ zRm K Ro I ∧ I 240 2 = p
def zIn (I : tI) (J : tJ) (hp sp : Nat) : Prop := ∃ K m b W Ro p, zKv K ∧ m ≤ 4000 ∧ (∀ j, j < m → b j < 256) ∧ ((hp = 208 ∧ sp = 209) ∨ (hp = 209 ∧ sp = 208)) ∧ zCi K m b W Ro p I J ∧ zMi K m b W Ro p I
/-- the model answers as the class did -/
def zPo (X : tX) (mM : Nat) (vs : List Value) : tQ := fun r E1 I1 J1 R1 => ∃ v, r = some (.int v) ∧ E1 = zE ∧ cwp X mM vs E1 I1 J1 R1 (fun r2 E2 I2 J2 R2 => r2 = some (.int v) ∧ E2 = zE ∧ ∃ hp' sp' tp', R2 = zR hp' sp' tp' ∧ zIn I2 J2 hp' sp')
theorem uFk_o {K : tK} {I I' : tI} (h : uFk K I) (f : ∀ o, 223 ≤ o → o ≤ 226 → I' o = I o) : uFk K I' := by
  rcases h with h | h
  · exact Or.inl (by rw [f _ (by decide) (by decide)]; exact h)
  · exact Or.inr (uFK_o h f)
theorem uOC_o {K : tK} {I I' : tI} (h : uOC K I) (f : ∀ o, 217 ≤ o → o ≤ 218 → I' o = I o) : uOC K I' := by
  rcases h with h | ⟨h1, h2, h3⟩
  · exact Or.inl (by rw [f _ (by decide) (by decide)]; exact h)
  · exact Or.inr ⟨by rw [f _ (by decide) (by decide)]; exact h1, fun e => by rw [f _ (by decide) (by decide)]; exact h2 e, fun o e => by rw [f 217 (by decide) (by decide), f 218 (by decide) (by decide)]; exact h3 o e⟩
theorem uSC_o {K : tK} {I I' : tI} (h : uSC K I) (f : I' 0 17 = I 0 17) : uSC K I' := by
  unfold uSC
  rw [f]
  exact h
theorem zWb_o {W : List Nat} {I I' : tI} (h : zWb W I) (f : I' 0 16 = I 0 16) (g : I' 239 = I 239) : zWb W I' := ⟨by rw [f]; exact h.1, h.2.1, fun i hi => by rw [g]; exact h.2.2.1 i hi, h.2.2.2⟩
theorem uMn_o {K : tK} {I I' : tI} (h : uMn K I) (f : ∀ o, 280 ≤ o → o ≤ 282 → I' o = I o) (g : ∀ k, k = 59 ∨ k = 60 → I' 240 k = I 240 k) : uMn K I' := by
  rcases h with h | h
  · exact Or.inl (by rw [g _ (Or.inl rfl)]; exact h)
  · exact Or.inr (uMK_o h f g)
theorem uOM_o {K : tK} {I I' : tI} (h : uOM K I) (f : I' 259 = I 259) (g : ∀ k, k = 28 ∨ k = 29 → I' 240 k = I 240 k) : uOM K I' := by
  rcases h with h | ⟨h1, h2, h3⟩
  · exact Or.inl (by rw [g _ (Or.inl rfl)]; exact h)
  · exact Or.inr ⟨by rw [g _ (Or.inl rfl)]; exact h1, by rw [g _ (Or.inr rfl)]; exact h2, fun o e => by rw [f]; exact h3 o e⟩
theorem zKM_a {K : tK} {I I' : tI} (h : zKM K I) (f : ∀ o, 251 ≤ o → o ≤ 257 → I' o = I o) (g : ∀ k, k = 16 ∨ k = 21 → I' 240 k = I 240 k) : zKM K I' := by
  obtain ⟨w1, w2, w3, w4, w5⟩ := h
  exact ⟨by rw [g _ (Or.inl rfl)]; exact w1, by rw [g _ (Or.inr rfl)]; exact w2, fun i hi => by rw [f _ (by decide) (by decide)]; exact w3 i hi, fun i hi => by rw [f 252 (by decide) (by decide), f 253 (by decide) (by decide)]; exact w4 i hi, fun r hr => by rw [f 254 (by decide) (by decide), f 255 (by decide) (by decide), f 256 (by decide) (by decide), f 257 (by decide) (by decide)]; exact w5 r hr⟩
section IV
variable {K : tK} {m : Nat} {b : Nat → Nat} {W W' : List Nat} {Ro : tRo} {p : Int32} {I I' : tI} {J J' : tJ}
def zfCA (I : tI) (J : tJ) (I' : tI) (J' : tJ) : Prop := (∀ o, o ≠ 0 → o < 204 ∨ o = 238 ∨ 239 < o → I' o = I o) ∧ (∀ k, k ≠ 16 → k ≠ 17 → I' 0 k = I 0 k) ∧ J' 14 = J 14
def zfMB (I I' : tI) : Prop := (∀ o, o ≠ 240 → o < 259 ∨ (268 < o ∧ o < 274) → I' o = I o) ∧ ∀ k, k < 28 ∨ (29 < k ∧ k < 39) ∨ (40 < k ∧ k < 52) → I' 240 k = I 240 k
theorem zCi_A (hK : zKv K) (h : zCi K m b W Ro p I J) (f : zfCA I J I' J') (hF : uFk K I') (hO : uOC K I') (hS : uSC K I') (hW : zWb W' I') : zCi K m b W' Ro p I' J' := by
  obtain ⟨h1, h2, h3, h4, h5, h6, h7, h8, h9⟩ := h
  exact ⟨zKC_in hK h1 (fun o o1 o2 => f.1 o (by omega) (by omega)) f.2.2, by rw [f.2.1 _ (by decide) (by decide)]; exact h2, fun i hi => by rw [f.1 _ (by decide) (by omega)]; exact h3 i hi, hF, hO, hS, hW, zRb_fr h8 (f.2.1 _ (by decide) (by decide)) (f.1 _ (by decide) (by omega)), by rw [f.2.1 _ (by decide) (by decide)]; exact h9⟩
theorem zMi_B (h : zMi K m b W Ro p I) (f : zfMB I I') (hF : uMn K I') (hO : uOM K I') (hW : zMp W' I') : zMi K m b W' Ro p I' := by
  obtain ⟨h1, h2, h3, h4, h5, h6, h7, h8⟩ := h
  exact ⟨zKM_a h1 (fun o o1 o2 => f.1 o (by omega) (by omega)) (fun k hk => f.2 k (by omega)), by rw [f.2 _ (by omega)]; exact h2, fun i hi => by rw [f.1 _ (by decide) (by omega)]; exact h3 i hi, hF, hO, hW, zRm_fr h7 (fun k hk => f.2 k (by omega)) (fun o o1 o2 => f.1 o (by omega) (by omega)), by rw [f.2 _ (by omega)]; exact h8⟩
theorem zCi_s (hK : zKv K) (h : zCi K m b W Ro p I J) (f : ∀ o, o < 240 → I' o = I o) : zCi K m b W Ro p I' J := by
  obtain ⟨h1, h2, h3, h4, h5, h6, h7, h8, h9⟩ := h
  exact ⟨zKC_in hK h1 (fun o o1 o2 => f o (by omega)) rfl, by rw [f _ (by decide)]; exact h2, fun i hi => by rw [f _ (by decide)]; exact h3 i hi, uFk_o h4 (fun o _ _ => f o (by omega)), uOC_o h5 (fun o _ _ => f o (by omega)), uSC_o h6 (by rw [f _ (by decide)]), zWb_o h7 (by rw [f _ (by decide)]) (f _ (by decide)), zRb_fr h8 (by rw [f _ (by decide)]) (f _ (by decide)), by rw [f _ (by decide)]; exact h9⟩
theorem zMi_s (h : zMi K m b W Ro p I) (f : ∀ o, 240 ≤ o → I' o = I o) : zMi K m b W Ro p I' := by
  have e : ∀ k, I' 240 k = I 240 k := fun k => by rw [f _ (by decide)]
  obtain ⟨h1, h2, h3, h4, h5, h6, h7, h8⟩ := h
  exact ⟨zKM_a h1 (fun o o1 o2 => f o (by omega)) (fun k _ => e k), by rw [e]; exact h2, fun i hi => by rw [f _ (by decide)]; exact h3 i hi, uMn_o h4 (fun o o1 o2 => f o (by omega)) (fun k _ => e k), uOM_o h5 (f _ (by decide)) (fun k _ => e k), zMp_fr h6 (e _) (f _ (by decide)), zRm_fr h7 (fun k _ => e k) (fun o o1 o2 => f o (by omega)), by rw [e]; exact h8⟩
end IV
