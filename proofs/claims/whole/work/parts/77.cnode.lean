/-! what the class has done and what it has to build -/
def xnt : xF → Nat → xF
  | .leaf (), _ => .leaf ()
  | .branch c k _, 0 => .branch c k (.leaf ())
  | .branch _ _ r, i + 1 => xnt r i
theorem xhn_nt {h : Nat → Int32} {top : Nat} : ∀ f as, xhn zct h top f as → ∀ i, i < xl f → xhn zct h top (xnt f i) [as.getD i 0]
  | .leaf (), as, _, i, hi => by simp only [xl] at hi; omega
  | .branch c k r, as, ⟨a, as', cs, e1, e2, e3, e4, e5, e6, e7⟩, 0, _ => by rw [e1]; exact ⟨a, [], cs, rfl, e2, e3, e4, e5, e6, rfl⟩
  | .branch c k r, as, ⟨a, as', cs, e1, e2, e3, e4, e5, e6, e7⟩, i + 1, hi => by rw [e1]; exact xhn_nt r as' e7 i (by simp only [xl] at hi; omega)
theorem xhn_tn {h : Nat → Int32} {top : Nat} : ∀ f (g : Nat → Nat), (∀ i, i < xl f → xhn zct h top (xnt f i) [g i]) → ∃ as, xhn zct h top f as ∧ ∀ i, i < xl f → as.getD i 0 = g i
  | .leaf (), g, _ => ⟨[], rfl, fun i hi => absurd hi (Nat.not_lt_zero _)⟩
  | .branch c k r, g, hg => by
    obtain ⟨as, h1, h2⟩ := xhn_tn r (fun i => g (i + 1)) (fun i hi => hg (i + 1) (by simp only [xl]; omega))
    obtain ⟨a, as', cs, e1, e2, e3, e4, e5, e6, e7⟩ := hg 0 (by simp only [xl]; omega)
    injection e1 with e1 _
    refine ⟨g 0 :: as, ⟨g 0, as, cs, rfl, by rw [e1]; exact e2, by rw [e1]; exact e3, by rw [e1]; exact e4, by rw [e1]; exact e5, e6, h1⟩, fun i hi => ?_⟩
    cases i with
    | zero => rfl
    | succ i => exact h2 i (by simp only [xl] at hi; omega)
theorem zsr_sh {g : Nat → Nat} : ∀ f j, zsr g (j + 1) f = zsr (fun i => g (i + 1)) j f
  | 0, j => rfl
  | f + 1, j => by simp only [zsr, zsr_sh f (j + 1)]
theorem xnt_z : ∀ f, zsr (fun i => xz (xnt f i)) 0 (xl f) = xz f
  | .leaf () => rfl
  | .branch c k r => by
    have := xnt_z r
    simp only [xl, zsr, zsr_sh]
    show xz (.branch c k (.leaf ())) + zsr (fun i => xz (xnt r i)) 0 (xl r) = xz (.branch c k r)
    rw [this]
    simp only [xz]
    omega
theorem xnt_w {ar : Nat → Nat} {sc : Nat} : ∀ f i, i < xl f → xw ar f → zco sc f → xw ar (xnt f i) ∧ zco sc (xnt f i) ∧ xl (xnt f i) = 1
  | .leaf (), i, hi, _, _ => by simp only [xl] at hi; omega
  | .branch c k r, 0, _, ⟨w1, w2, w3⟩, hc => by
    obtain ⟨c1, c2, c3⟩ := zco_b.mp hc
    exact ⟨⟨w1, w2, trivial⟩, zco_b.mpr ⟨c1, c2, fun x hx => by cases hx⟩, rfl⟩
  | .branch c k r, i + 1, hi, ⟨w1, w2, w3⟩, hc => xnt_w r i (by simp only [xl] at hi; omega) w3 (zco_b.mp hc).2.2
theorem zsr_l {l : List xI} : ∀ f j, j + f = l.length → zsr (fun i => ztz (l.getD i (.inl 0))) j f = ((l.drop j).map ztz).sum
  | 0, j, h => by
    rw [List.drop_eq_nil_of_le (by omega)]
    rfl
  | f + 1, j, h => by
    have hj : j < l.length := by omega
    rw [List.drop_eq_getElem_cons hj, List.map_cons, List.sum_cons, ← zsr_l f (j + 1) (by omega)]
    simp only [zsr]
    rw [List.getD_eq_getElem?_getD, List.getElem?_eq_getElem hj]
    rfl
theorem zis_m : ∀ its : List xI, (its.map ztz).sum ≤ xis its
  | [] => Nat.le_refl _
  | .inl _ :: its => by have := zis_m its; simp only [List.map_cons, List.sum_cons, ztz, xis]; omega
  | .inr u :: its => by have := zis_m its; simp only [List.map_cons, List.sum_cons, ztz, xis]; omega
/-- the reducer's rows: S is done, its is to be built, all below top -/
def zRS (hp : Nat) (S : xF) (its : List xI) (top : Nat) (I : tI) : Prop := I 207 8 = nI (xl S) ∧ I 207 6 = nI its.length ∧ (∃ as, xhn zct (I hp) top S as ∧ ∀ i, i < xl S → I 211 i = nI (as.getD i 0)) ∧ ∀ i, i < its.length → zitm (fun u a => xhn zct (I hp) top u [a]) (I 210 i) (its.reverse.getD i (.inl 0))
def zokS (K : tK) (S : xF) (its : List xI) : Prop := xw (zar K.sa) S ∧ zco K.sc S ∧ (∀ u, Sum.inr u ∈ its → xw (zar K.sa) u ∧ zco K.sc u ∧ xl u = 1) ∧ xz S + xis its ≤ 1000 ∧ its.length ≤ 1000
theorem zRS_fr {hp top top' : Nat} {S : xF} {its : List xI} {I I' : tI} (ht : top ≤ top') (h : zRS hp S its top I) (h1 : ∀ i, i < top → I' hp i = I hp i) (h2 : I' 211 = I 211) (h3 : I' 210 = I 210) (h4 : I' 207 8 = I 207 8) (h5 : I' 207 6 = I 207 6) : zRS hp S its top' I' := by
  obtain ⟨a1, a2, ⟨as, a3, a4⟩, a5⟩ := h
  refine ⟨by rw [h4]; exact a1, by rw [h5]; exact a2, ⟨as, xhn_fr ht h1 S as a3, fun i hi => by rw [h2]; exact a4 i hi⟩, fun i hi => ?_⟩
  rw [h3]
  have := a5 i hi
  cases e : its.reverse.getD i (.inl 0) with
  | inl c => rw [e] at this; exact this
  | inr u =>
    rw [e] at this
    obtain ⟨a, b1, b2, b3⟩ := this
    exact ⟨a, b1, b2, xhn_fr ht h1 u [a] b3⟩
section CN
variable {X : tX} {Q : tQ} {hp sp tp : Nat} {I : tI} {J : tJ} {K : tK} {S : xF} {its : List xI} {top : Nat}
/-- packing, as the reducer's rows see it -/
theorem c_packS (hh : (hp = 208 ∧ sp = 209) ∨ (hp = 209 ∧ sp = 208)) (hK : zKv K) (h16 : ∀ i, i < K.sc → I 16 i = nI (K.sa i)) (ht : top ≤ 8000) (hR : zRS sp S its top I) (ho : zokS K S its)
    (hQ : ∀ top' I', top' ≤ 3000 → I' 207 4 = nI top' → zRS hp S its top' I' → zfK hp I I' → Q none zE I' J (zR hp sp tp)) : cwp X 67 [.ref 207, .ref 11] zE I J (zR sp hp tp) Q := by
  obtain ⟨a1, a2, ⟨as, a3, a4⟩, a5⟩ := id hR
  obtain ⟨o1, o2, o3, o4, o5⟩ := ho
  have hl := xl_le S
  have hmem : ∀ i, i < its.length → its.reverse.getD i (.inl 0) ∈ its := fun i hi => by
    have hi' : i < its.reverse.length := by rw [List.length_reverse]; exact hi
    rw [List.getD_eq_getElem?_getD, List.getElem?_eq_getElem hi']
    exact List.mem_reverse.mp (List.getElem_mem hi')
  refine c_pack (dn := xnt S) (dc := xl S) (tc := its.length) (it := fun i => its.reverse.getD i (.inl 0)) hh hK.2.1 h16 ht (by omega) o5 a1 a2 ?_ (fun i hi => ?_) (fun i hi => ?_) (fun top' I' q1 q2 q3 q4 q5 => ?_)
  · rw [xnt_z]
    have := zsr_l (l := its.reverse) its.length 0 (by rw [List.length_reverse]; omega)
    rw [this, List.drop_zero, List.map_reverse, List.sum_reverse]
    have := zis_m its
    omega
  · obtain ⟨b1, b2, b3⟩ := xnt_w (ar := zar K.sa) (sc := K.sc) S i hi o1 o2
    exact ⟨b1, b2, b3, as.getD i 0, a4 i hi, xhn_nt S as a3 i hi⟩
  · have h5 := a5 i hi
    have hm := hmem i hi
    cases e : its.reverse.getD i (.inl 0) with
    | inl c => rw [e] at h5; exact h5
    | inr u =>
      rw [e] at h5 hm
      obtain ⟨a, b1, b2, b3⟩ := h5
      obtain ⟨c1, c2, c3⟩ := o3 u hm
      exact ⟨a, b1, b2, c1, c2, c3, b3⟩
  · refine hQ top' I' q1 q2 ⟨by rw [q3.2 _ (by decide)]; exact a1, by rw [q3.2 _ (by decide)]; exact a2, ?_, q5⟩ q3
    have : ∀ i, ∃ a, i < xl S → I' 211 i = nI a ∧ xhn zct (I' hp) top' (xnt S i) [a] := fun i => by
      by_cases hi : i < xl S
      · obtain ⟨a, b1, b2⟩ := q4 i hi
        exact ⟨a, fun _ => ⟨b1, b2⟩⟩
      · exact ⟨0, fun q => absurd q hi⟩
    obtain ⟨bs, b1, b2⟩ := xhn_tn S (fun i => Classical.choose (this i)) (fun i hi => (Classical.choose_spec (this i) hi).2)
    exact ⟨bs, b1, fun i hi => by rw [b2 i hi]; exact (Classical.choose_spec (this i) hi).1⟩
end CN
