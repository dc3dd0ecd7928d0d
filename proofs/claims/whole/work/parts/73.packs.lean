/-! packing: a forest in a heap that is being filled; what stands below nd has its parts here, what stands behind it has them in the old heap s -/
def xmx (h s : Nat → Int32) (own : Nat → Nat) (nd top stop : Nat) : xF → List Nat → Prop
  | .leaf (), as => as = []
  | .branch c k r, as => ∃ a as' cs, as = a :: as' ∧ h a = zct c ∧ h (a + 1) = nI (1 + xz k) ∧ a + 2 + xl k ≤ top ∧ (∀ j, j < 2 + xl k → own (a + j) = a) ∧ (∀ i, i < xl k → h (a + 2 + i) = nI (cs.getD i 0)) ∧ (a < nd → xmx h s own nd top stop k cs) ∧ (¬ a < nd → xhn zct s stop k cs) ∧ xmx h s own nd top stop r as'
section PA
variable {h h' s : Nat → Int32} {own own' : Nat → Nat} {nd top top' stop : Nat}
theorem xmx_fr (ht : top ≤ top') (hh : ∀ i, i < top → h' i = h i) (ho : ∀ i, i < top → own' i = own i) : ∀ f as, xmx h s own nd top stop f as → xmx h' s own' nd top' stop f as
  | .leaf (), as, e => e
  | .branch c k r, as, ⟨a, as', cs, e1, e2, e3, e4, e5, e6, e7, e8, e9⟩ => ⟨a, as', cs, e1, by rw [hh a (by omega)]; exact e2, by rw [hh (a + 1) (by omega)]; exact e3, by omega, fun j hj => by rw [ho (a + j) (by omega)]; exact e5 j hj, fun i hi => by rw [hh (a + 2 + i) (by omega)]; exact e6 i hi, fun q => xmx_fr ht hh ho k cs (e7 q), e8, xmx_fr ht hh ho r as' e9⟩
theorem xmx_end (ht : top ≤ nd) : ∀ f as, xmx h s own nd top stop f as → xhn zct h top f as
  | .leaf (), as, e => e
  | .branch c k r, as, ⟨a, as', cs, e1, e2, e3, e4, e5, e6, e7, e8, e9⟩ => ⟨a, as', cs, e1, e2, e3, e4, e6, xmx_end ht k cs (e7 (by omega)), xmx_end ht r as' e9⟩
theorem xmx_ap : ∀ f g as bs, xmx h s own nd top stop f as → xmx h s own nd top stop g bs → xmx h s own nd top stop (xap f g) (as ++ bs)
  | .leaf (), g, as, bs, e, q => by
    have : as = [] := e
    rw [this]
    exact q
  | .branch c k r, g, as, bs, ⟨a, as', cs, e1, e2, e3, e4, e5, e6, e7, e8, e9⟩, q => ⟨a, as' ++ bs, cs, by rw [e1]; rfl, e2, e3, e4, e5, e6, e7, e8, xmx_ap r g as' bs e9 q⟩
theorem xmx_de : ∀ f g as, xmx h s own nd top stop (xap f g) as → ∃ bs ds, as = bs ++ ds ∧ xmx h s own nd top stop f bs ∧ xmx h s own nd top stop g ds
  | .leaf (), g, as, e => ⟨[], as, rfl, rfl, e⟩
  | .branch c k r, g, as, ⟨a, as', cs, e1, e2, e3, e4, e5, e6, e7, e8, e9⟩ => by
    obtain ⟨bs, ds, d1, d2, d3⟩ := xmx_de r g as' e9
    exact ⟨a :: bs, ds, by rw [e1, d1]; rfl, ⟨a, bs, cs, rfl, e2, e3, e4, e5, e6, e7, e8, d2⟩, d3⟩
theorem xmx_proc {sc c0 m : Nat} {ar : Nat → Nat} {k0 : xF} {cs0 cs1 : List Nat} (hsc : sc ≤ 6) (hst : stop ≤ 8000) (hm : xl k0 = m) (hw0 : xl k0 = ar c0) (hk0 : xw ar k0) (hc0 : zco sc k0) (hcc : c0 < sc ∨ (1000 ≤ c0 ∧ c0 < 100000)) (hn : nd + 2 + m ≤ top) (hown : ∀ j, j < 2 + m → own (nd + j) = nd) (h0 : h nd = zct c0) (h2 : ∀ i, i < m → h (nd + 2 + i) = nI (cs0.getD i 0)) (hx0 : xhn zct s stop k0 cs0)
    (ht : top ≤ top') (hh : ∀ i, i < top → (i < nd + 2 ∨ nd + 2 + m ≤ i) → h' i = h i) (ho : ∀ i, i < top → own' i = own i) (h2' : ∀ i, i < m → h' (nd + 2 + i) = nI (cs1.getD i 0)) (hx1 : xmx h' s own' (nd + 2 + m) top' stop k0 cs1) : ∀ f as, xw ar f → zco sc f → xmx h s own nd top stop f as → xmx h' s own' (nd + 2 + m) top' stop f as
  | .leaf (), as, _, _, e => e
  | .branch c k r, as, ⟨w1, w2, w3⟩, cf, ⟨a, as', cs, e1, e2, e3, e4, e5, e6, e7, e8, e9⟩ => by
    obtain ⟨c1, c2, c3⟩ := zco_b.mp cf
    have hr := xmx_proc hsc hst hm hw0 hk0 hc0 hcc hn hown h0 h2 hx0 ht hh ho h2' hx1 r as' w3 c3 e9
    have hoa : own' a = a := by have := e5 0 (by omega); rw [Nat.add_zero] at this; rw [ho a (by omega)]; exact this
    by_cases ea : a = nd
    · subst ea
      have hcq : c = c0 := zct_i (by omega) (by omega) (e2.symm.trans h0)
      subst hcq
      have hl := xhn_len k cs (e8 (by omega))
      have hl0 := xhn_len k0 cs0 hx0
      have hcs : cs = cs0 := by
        refine zl_ext.mpr ⟨by rw [hl, hl0, w1, hw0], fun i hi => ?_⟩
        have q1 := e6 i (by omega)
        have q2 := h2 i (by omega)
        rw [q1] at q2
        have b1 : cs.getD i 0 + 2 ≤ stop := xhn_lt k cs (e8 (by omega)) _ (by rw [List.getD_eq_getElem?_getD, List.getElem?_eq_getElem hi]; exact List.getElem_mem hi)
        have hi2 : i < cs0.length := by omega
        have b2 : cs0.getD i 0 + 2 ≤ stop := xhn_lt k0 cs0 hx0 _ (by rw [List.getD_eq_getElem?_getD, List.getElem?_eq_getElem hi2]; exact List.getElem_mem hi2)
        exact (nI_eq (by omega) (by omega)).mp q2
      subst hcs
      have hkk : k = k0 := xhn_uni hsc hst k k0 cs c2 hc0 w2 hk0 (e8 (by omega)) hx0
      subst hkk
      exact ⟨a, as', cs1, e1, by rw [hh a (by omega) (by omega)]; exact e2, by rw [hh (a + 1) (by omega) (by omega)]; exact e3, by omega, fun j hj => by rw [ho (a + j) (by omega)]; exact e5 j hj, fun i hi => h2' i (by omega), fun _ => hx1, fun q => absurd (by omega) q, hr⟩
    · -- its cells are not among those that changed
      have out : ∀ j, j < 2 + xl k → (a + j < nd + 2 ∨ nd + 2 + m ≤ a + j) := fun j hj => by
        rcases Nat.lt_or_ge (a + j) (nd + 2) with q | q
        · exact Or.inl q
        · rcases Nat.lt_or_ge (a + j) (nd + 2 + m) with q2 | q2
          · exfalso
            have q3 := e5 j hj
            have q4 := hown (a + j - nd) (by omega)
            rw [show nd + (a + j - nd) = a + j by omega] at q4
            omega
          · exact Or.inr q2
      have hcell : ∀ j, j < 2 + xl k → h' (a + j) = h (a + j) := fun j hj => hh (a + j) (by omega) (out j hj)
      have side : a < nd + 2 + m → a < nd := fun q => by
        rcases Nat.lt_or_ge a nd with q2 | q2
        · exact q2
        · exfalso
          have q3 := e5 0 (by omega)
          rw [Nat.add_zero] at q3
          have q4 := hown (a - nd) (by omega)
          rw [show nd + (a - nd) = a by omega] at q4
          omega
      refine ⟨a, as', cs, e1, by have := hcell 0 (by omega); rw [Nat.add_zero] at this; rw [this]; exact e2, by rw [hcell 1 (by omega)]; exact e3, by omega, fun j hj => by rw [ho (a + j) (by omega)]; exact e5 j hj, fun i hi => by have := hcell (2 + i) (by omega); rw [← Nat.add_assoc] at this; rw [this]; exact e6 i hi, fun q => ?_, fun q => e8 (by omega), hr⟩
      exact xmx_proc hsc hst hm hw0 hk0 hc0 hcc hn hown h0 h2 hx0 ht hh ho h2' hx1 k cs w2 c2 (e7 (side q))
/-- what is still to be gone through, from nd to top -/
def zpc (h s : Nat → Int32) (own : Nat → Nat) (sc : Nat) (ar : Nat → Nat) (stop : Nat) : List (Nat × xF) → Nat → Nat → Prop
  | [], nd, top => nd = top
  | (c, k) :: ps, nd, top => h nd = zct c ∧ (c < sc ∨ (1000 ≤ c ∧ c < 100000)) ∧ xl k = ar c ∧ xw ar k ∧ zco sc k ∧ (∀ j, j < 2 + xl k → own (nd + j) = nd) ∧ (∃ cs, (∀ i, i < xl k → h (nd + 2 + i) = nI (cs.getD i 0)) ∧ xhn zct s stop k cs) ∧ zpc h s own sc ar stop ps (nd + 2 + xl k) top
theorem zpc_le {sc : Nat} {ar : Nat → Nat} : ∀ ps nd top, zpc h s own sc ar stop ps nd top → nd ≤ top
  | [], nd, top, e => by have : nd = top := e; omega
  | (c, k) :: ps, nd, top, ⟨_, _, _, _, _, _, _, e⟩ => by have := zpc_le ps _ _ e; omega
theorem zpc_fr {sc : Nat} {ar : Nat → Nat} : ∀ ps nd top, (∀ i, nd ≤ i → i < top → h' i = h i) → (∀ i, nd ≤ i → i < top → own' i = own i) → zpc h s own sc ar stop ps nd top → zpc h' s own' sc ar stop ps nd top
  | [], nd, top, _, _, e => e
  | (c, k) :: ps, nd, top, hh, ho, ⟨e1, e2, e3, e4, e5, e6, ⟨cs, e7, e8⟩, e9⟩ => by
    have hl := zpc_le ps _ _ e9
    exact ⟨by rw [hh nd (by omega) (by omega)]; exact e1, e2, e3, e4, e5, fun j hj => by rw [ho (nd + j) (by omega) (by omega)]; exact e6 j hj, ⟨cs, fun i hi => by rw [hh (nd + 2 + i) (by omega) (by omega)]; exact e7 i hi, e8⟩, zpc_fr ps _ _ (fun i q1 q2 => hh i (by omega) q2) (fun i q1 q2 => ho i (by omega) q2) e9⟩
theorem zpc_add {sc c : Nat} {ar : Nat → Nat} {k : xF} {t' : Nat} : ∀ ps nd top, zpc h s own sc ar stop ps nd top → zpc h s own sc ar stop [(c, k)] top t' → zpc h s own sc ar stop (ps ++ [(c, k)]) nd t'
  | [], nd, top, e, q => by have : nd = top := e; subst this; exact q
  | (c', k') :: ps, nd, top, ⟨e1, e2, e3, e4, e5, e6, e7, e8⟩, q => ⟨e1, e2, e3, e4, e5, e6, e7, zpc_add ps _ _ e8 q⟩
def zph : List (Nat × xF) → Nat
  | [] => 0
  | (_, k) :: ps => (3 * xz k - xl k) + zph ps
theorem zph_ap : ∀ a b, zph (a ++ b) = zph a + zph b
  | [], b => by simp [zph]
  | (c, k) :: a, b => by simp only [List.cons_append, zph, zph_ap a b]; omega
end PA
