/-! a side's row is a term -/
def xmp (g : Nat → Nat) : xF → xF
  | (.leaf ()) => .leaf ()
  | .branch c k r => .branch (g c) (xmp g k) (xmp g r)
theorem xmp_p {g : Nat → Nat} : ∀ f, xp (xmp g f) = (xp f).map g
  | (.leaf ()) => rfl
  | .branch c k r => by simp only [xmp, xp, List.map_cons, List.map_append, xmp_p k, xmp_p r]
theorem xmp_l {g : Nat → Nat} : ∀ f, xl (xmp g f) = xl f
  | (.leaf ()) => rfl
  | .branch c k r => by simp only [xmp, xl, xmp_l r]
theorem xmp_w {ar g : Nat → Nat} (h : ∀ c, ar (g c) = ar c) : ∀ f, xw ar f → xw ar (xmp g f)
  | (.leaf ()), _ => trivial
  | .branch c k r, ⟨h1, h2, h3⟩ => ⟨by rw [xmp_l, h, h1], xmp_w h k h2, xmp_w h r h3⟩
theorem ufm_sb {ar : Nat → Nat} (ha : ∀ c, 100 ≤ c → ar c = 0) {e : Nat → xF} : ∀ G, xw ar G → ufm (fun c => if c < 100 then [c] else xp (e c)) (xp G) = xp (xsb e G)
  | (.leaf ()), _ => rfl
  | .branch c k r, ⟨h1, h2, h3⟩ => by
    simp only [xp, xsb, ufm, ufm_ap]
    rw [ufm_sb ha k h2, ufm_sb ha r h3]
    by_cases hc : c < 100
    · rw [if_pos hc, if_pos hc]; rfl
    · rw [if_neg hc, if_neg hc, xp_ap]
      have : k = (.leaf ()) := xl_0 (by rw [h1]; exact ha c (by omega))
      subst this
      rfl
theorem ufm_c {f g : Nat → List Nat} : ∀ {L : List Nat}, (∀ c, c ∈ L → f c = g c) → ufm f L = ufm g L
  | [], _ => rfl
  | c :: L, h => by simp only [ufm]; rw [h c (List.mem_cons_self ..), ufm_c (fun d hd => h d (List.mem_cons_of_mem _ hd))]
/-- a node is put in another's place -/
theorem xrep : ∀ (G : xF) (p : Nat), p < xz G → ∃ A c k B, xp G = A ++ (c :: (xp k ++ B)) ∧ A.length = p ∧ (∀ ar, xw ar G → xl k = ar c ∧ xw ar k) ∧ ∀ t, xl t = 1 → ∃ G', xp G' = A ++ (xp t ++ B) ∧ xl G' = xl G ∧ ∀ ar, xw ar G → xw ar t → xw ar G'
  | (.leaf ()), p, h => by simp only [xz] at h; omega
  | .branch c k r, p, h => by
    simp only [xz] at h
    by_cases h0 : p = 0
    · subst h0
      refine ⟨[], c, k, xp r, rfl, rfl, fun ar hw => ⟨hw.1, hw.2.1⟩, fun t ht => ⟨xap t r, ?_, ?_, fun ar hw hwt => (xw_ap _ _).mpr ⟨hwt, hw.2.2⟩⟩⟩
      · rw [xp_ap]; rfl
      · rw [xl_ap, ht]; simp only [xl]; omega
    · by_cases h1 : p - 1 < xz k
      · obtain ⟨A, c', k', B, e1, e2, e3, e4⟩ := xrep k (p - 1) h1
        refine ⟨c :: A, c', k', B ++ xp r, ?_, by simp only [List.length_cons]; omega, fun ar hw => e3 ar hw.2.1, fun t ht => ?_⟩
        · simp only [xp, e1, List.cons_append, List.append_assoc]
        · obtain ⟨G', g1, g2, g3⟩ := e4 t ht
          exact ⟨.branch c G' r, by simp only [xp, g1, List.cons_append, List.append_assoc], rfl, fun ar hw hwt => ⟨by rw [g2]; exact hw.1, g3 ar hw.2.1 hwt, hw.2.2⟩⟩
      · obtain ⟨A, c', k', B, e1, e2, e3, e4⟩ := xrep r (p - 1 - xz k) (by omega)
        refine ⟨c :: (xp k ++ A), c', k', B, ?_, by simp only [List.length_cons, List.length_append, xp_len]; omega, fun ar hw => e3 ar hw.2.2, fun t ht => ?_⟩
        · simp only [xp, e1, List.cons_append, List.append_assoc]
        · obtain ⟨G', g1, g2, g3⟩ := e4 t ht
          exact ⟨.branch c k G', by simp only [xp, g1, List.cons_append, List.append_assoc], by simp only [xl, g2], fun ar hw hwt => ⟨hw.1, hw.2.1, g3 ar hw.2.2 hwt⟩⟩
section RT
variable {K : tK} {i j p : Nat} {jn rt : Nat → Nat} {sy : Nat → Option Nat} {ρ : Nat → Nat}
/-- the term of a node is one: its symbols are those of the rules -/
theorem uTn_w (hK : zKv K) (hi : i < K.rd) (hj : j < K.rd) (hp : p < K.n (2 * i)) (h : uMt K i j p jn rt sy ρ) : ∀ N x, uIn K i j p 40 x → ρ (rt x) ≤ N → xw (zar K.sa) (uTn K i j rt sy ρ x) ∧ xl (uTn K i j rt sy ρ x) = 1 ∧ ∀ c, c ∈ xp (uTn K i j rt sy ρ x) → c < K.sc ∨ 100 ≤ c := by
  have hU := h.1.choose_spec.choose_spec.2.2
  have hnd40 : ∀ x, uIn K i j p 40 x → und K i j 40 x := fun x hx => (u_In hK hi hj (Nat.le_refl 40) hp hx).1
  have n1 := (hK.2.2.2.1 (2 * i) (by omega)).2.2.1
  intro N
  induction N using Nat.strongRecOn with
  | _ N ih =>
    intro x ix hN
    cases hs : sy (rt x) with
    | none =>
      rw [uTn_v hs]
      refine ⟨⟨(zar_v (by omega)).symm, trivial, trivial⟩, rfl, fun c hc => ?_⟩
      simp only [xp, List.append_nil, List.mem_cons, List.not_mem_nil, or_false] at hc
      omega
    | some s =>
      have is := hU.2.2.2.2.1 x s ix hs
      obtain ⟨x1, x2, x3, x4, x5⟩ := hU.1 x (hnd40 x ix)
      obtain ⟨t1, t2, t3⟩ := hU.2.2.1 _ s x2 x3 hs
      have ew := (ucd_s (K := K) (i := i) (j := j) (B := 40) (x := s)).1.mp t2
      have hws : uw K i j 40 s < K.sc := by
        unfold uw at ew ⊢
        by_cases hb : s < 40
        · rw [if_pos hb] at ew ⊢
          have := (hK.2.2.2.1 (2 * i) (by omega)).2.2.2 s (by rcases t1 with q | q <;> omega)
          omega
        · rw [if_neg hb] at ew ⊢
          have := (hK.2.2.2.1 (2 * j) (by omega)).2.2.2 (s - 40) (by rcases t1 with q | q <;> omega)
          omega
      have key : ∀ k, k < ua K i j 40 s → xw (zar K.sa) (uTn K i j rt sy ρ (uch K i j 40 s k)) ∧ xl (uTn K i j rt sy ρ (uch K i j 40 s k)) = 1 ∧ ∀ c, c ∈ xp (uTn K i j rt sy ρ (uch K i j 40 s k)) → c < K.sc ∨ 100 ≤ c := by
        intro k hk
        have hr := h.2.2.2 x ix s hs k hk
        exact ih (ρ (rt (uch K i j 40 s k))) (by omega) _ ((u_In hK hi hj (Nat.le_refl 40) hp is).2 k hk) (Nat.le_refl _)
      rw [uTn_s hK hi hj hp h ix hs]
      refine ⟨⟨by rw [xfl_l _ (fun k hk => (key k hk).2.1)]; rfl, xfl_w _ (fun k hk => (key k hk).1), trivial⟩, rfl, fun c hc => ?_⟩
      simp only [xp, List.append_nil, List.mem_cons] at hc
      rcases hc with q | q
      · exact Or.inl (by rw [q]; exact hws)
      · obtain ⟨k, k1, k2⟩ := (xfl_mem _).mp q
        exact (key k k1).2.2 c k2
/-- a side's row is the row of a term -/
theorem uRC_t {side : Nat} {R : List Nat} (hK : zKv K) (hi : i < K.rd) (hj : j < K.rd) (hp : p < K.n (2 * i)) (h : uRC K i j p side R) : ∃ T, xp T = R ∧ xw (zar K.sa) T ∧ xl T = 1 ∧ ∀ c, c ∈ R → c < K.sc ∨ (1000 ≤ c ∧ c < 1080) := by
  obtain ⟨jn, rt, sy, ρ, hM, e1, hlen⟩ := h
  have hsc := hK.2.1
  have n1 := (hK.2.2.2.1 (2 * i) (by omega)).2.2.1
  have n2 := (hK.2.2.2.1 (2 * j) (by omega)).2.2.1
  have ha : ∀ c, 100 ≤ c → zar K.sa c = 0 := fun c hc => zar_v hc
  -- what a variable stands for
  have hv : ∀ r base v, (base = 0 ∧ r = i) ∨ (base = 40 ∧ r = j) → v < K.nv r → xw (zar K.sa) (uTn K i j rt sy ρ (base + K.fa r v)) ∧ xl (uTn K i j rt sy ρ (base + K.fa r v)) = 1 ∧ ∀ c, c ∈ xp (uTn K i j rt sy ρ (base + K.fa r v)) → c < K.sc ∨ 100 ≤ c := by
    intro r base v hb hv
    have ix : uIn K i j p 40 (base + K.fa r v) := by
      rcases hb with ⟨q1, q2⟩ | ⟨q1, q2⟩
      · subst q1; subst q2
        obtain ⟨f1, f2, f3, f4⟩ := (hK.2.2.2.2 r hi).2.2 v hv
        rw [Nat.zero_add]
        exact Or.inr (Or.inr ⟨f2, by omega⟩)
      · subst q1; subst q2
        obtain ⟨f1, f2, f3, f4⟩ := (hK.2.2.2.2 r hj).2.2 v hv
        exact Or.inr (Or.inl ⟨by omega, by omega⟩)
    exact uTn_w hK hi hj hp hM _ _ ix (Nat.le_refl _)
  have inst : ∀ r base s, (base = 0 ∧ r = i) ∨ (base = 40 ∧ r = j) → s / 2 = r → s < 2 * K.rd → ∀ G, xw (zar K.sa) G → (∀ c, c ∈ xp G → c < K.sc ∨ (100 ≤ c ∧ c < 100 + K.nv r)) → ∃ T, xp T = ufm (uEr K i j r base rt sy ρ) (xp G) ∧ xw (zar K.sa) T ∧ xl T = xl G ∧ ∀ c, c ∈ xp T → c < K.sc ∨ 100 ≤ c := by
    intro r base s hb hs1 hs2 G hG hc
    refine ⟨xsb (fun d => uTn K i j rt sy ρ (base + K.fa r (d - 100))) G, (ufm_sb ha G hG).symm, ?_, ?_, fun c hcm => ?_⟩
    · exact xsb_w _ hG (fun d hd h100 => by
        have := hc d hd
        exact ⟨(hv r base (d - 100) hb (by omega)).2.1, (hv r base (d - 100) hb (by omega)).1⟩)
    · exact xsb_l _ (fun d hd h100 => by
        have := hc d hd
        exact (hv r base (d - 100) hb (by omega)).2.1)
    · rw [← ufm_sb ha G hG] at hcm
      have key : ∀ L : List Nat, (∀ d, d ∈ L → d < K.sc ∨ (100 ≤ d ∧ d < 100 + K.nv r)) → c ∈ ufm (fun c => if c < 100 then [c] else xp (uTn K i j rt sy ρ (base + K.fa r (c - 100)))) L → c < K.sc ∨ 100 ≤ c := by
        intro L
        induction L with
        | nil => intro _ h; cases h
        | cons d L ih =>
          intro hL hm
          simp only [ufm] at hm
          rcases List.mem_append.mp hm with q | q
          · have hd := hL d (List.mem_cons_self ..)
            by_cases hd100 : d < 100
            · rw [if_pos hd100, List.mem_singleton] at q
              omega
            · rw [if_neg hd100] at q
              exact (hv r base (d - 100) hb (by omega)).2.2 c q
          · exact ih (fun d hd => hL d (List.mem_cons_of_mem _ hd)) q
      exact key (xp G) hc hcm
  have codes : ∀ s r, s / 2 = r → s < 2 * K.rd → ∀ c, c ∈ xp (K.G s) → c < K.sc ∨ (100 ≤ c ∧ c < 100 + K.nv r) := by
    intro s r h1 h2 c hc
    obtain ⟨q, hq, e⟩ := List.getElem_of_mem hc
    have hq' : q < K.n s := by rw [xp_len] at hq; exact hq
    have := (hK.2.2.2.1 s h2).2.2.2 q hq'
    rw [h1] at this
    have e2 : K.w s q = c := by
      show (xp (K.G s)).getD q 0 = c
      rw [List.getD_eq_getElem?_getD, List.getElem?_eq_getElem hq, e]; rfl
    rw [e2] at this
    exact this
  -- the side before its variables are numbered
  have pre : ∃ T, xp T = uSs K i j p rt sy ρ side ∧ xw (zar K.sa) T ∧ xl T = 1 ∧ ∀ c, c ∈ xp T → c < K.sc ∨ 100 ≤ c := by
    unfold uSs
    by_cases hs : side = 1
    · rw [if_pos hs]
      obtain ⟨w1, w2, w3, w4⟩ := hK.2.2.2.1 (2 * i + 1) (by omega)
      obtain ⟨T, t1, t2, t3, t4⟩ := inst i 0 (2 * i + 1) (Or.inl ⟨rfl, rfl⟩) (by omega) (by omega) (K.G (2 * i + 1)) w1 (codes _ i (by omega) (by omega))
      refine ⟨T, ?_, t2, by rw [t3, w2], t4⟩
      rw [t1]
      unfold uS1
      rw [zKv_row]
    · rw [if_neg hs]
      obtain ⟨w1, w2, w3, w4⟩ := hK.2.2.2.1 (2 * i) (by omega)
      obtain ⟨o1, o2, o3, o4⟩ := hK.2.2.2.1 (2 * j + 1) (by omega)
      obtain ⟨A, c, k, B, g1, g2, g3, g4⟩ := xrep (K.G (2 * i)) p hp
      obtain ⟨k1, k2⟩ := g3 _ w1
      obtain ⟨z1, z2, z3⟩ := zKv_c hK (s := 2 * i) (by omega) hp
      have zl := zS_le z1
      -- the end of the part
      have hrow := zKv_row (K := K) (s := 2 * i)
      have hlen2 : (xp (K.G (2 * i))).length = K.n (2 * i) := xp_len _
      have hz : zen (K.a (2 * i)) p = p + (1 + xz k) := by
        apply zen_eq
        have hr2 : xrow (K.w (2 * i)) p (1 + xz k) = xp (.branch c k (.leaf ())) := by
          have e2 : K.n (2 * i) = p + ((1 + xz k) + B.length) := by
            rw [← hlen2, g1]
            simp only [List.length_append, List.length_cons, xp_len]
            omega
          rw [e2, xrow_add, xrow_add, g1] at hrow
          obtain ⟨q1, q2⟩ := List.append_inj hrow (by rw [xrow_len, g2])
          rw [Nat.zero_add] at q2
          have q3 : c :: (xp k ++ B) = xp (.branch c k (.leaf ())) ++ B := by simp [xp]
          rw [q3] at q2
          exact (List.append_inj q2 (by rw [xrow_len, xp_len]; simp only [xz]; omega)).1
        have := xfor_S (ar := zar K.sa) (w := K.w (2 * i)) (.branch c k (.leaf ())) p ⟨k1, k2, trivial⟩ (by simp only [xz, Nat.add_zero]; exact hr2)
        simp only [xl, xz, Nat.add_zero, Nat.zero_add] at this
        exact this
      have e2 : K.n (2 * i) = p + ((1 + xz k) + (K.n (2 * i) - zen (K.a (2 * i)) p)) := by omega
      have hAB : A = xrow (K.w (2 * i)) 0 p ∧ B = xrow (K.w (2 * i)) (zen (K.a (2 * i)) p) (K.n (2 * i) - zen (K.a (2 * i)) p) := by
        rw [e2, xrow_add, xrow_add, g1] at hrow
        obtain ⟨q1, q2⟩ := List.append_inj hrow (by rw [xrow_len, g2])
        have q3 : c :: (xp k ++ B) = xp (.branch c k (.leaf ())) ++ B := by simp [xp]
        rw [q3] at q2
        obtain ⟨q4, q5⟩ := List.append_inj q2 (by rw [xrow_len, xp_len]; simp only [xz]; omega)
        refine ⟨q1.symm, ?_⟩
        rw [← q5, Nat.zero_add, hz]
      -- with a sign in its place
      obtain ⟨G', G1, G2, G3⟩ := g4 (.branch 99999 (.leaf ()) (.leaf ())) rfl
      have hG' := G3 _ w1 ⟨(zar_v (by omega)).symm, trivial, trivial⟩
      obtain ⟨To, to1, to2, to3, to4⟩ := inst j 40 (2 * j + 1) (Or.inr ⟨rfl, rfl⟩) (by omega) (by omega) (K.G (2 * j + 1)) o1 (codes _ j (by omega) (by omega))
      have cA : ∀ d, d ∈ A → d < K.sc ∨ (100 ≤ d ∧ d < 100 + K.nv i) := fun d hd => codes (2 * i) i (by omega) (by omega) d (by rw [g1]; exact List.mem_append_left _ hd)
      have cB : ∀ d, d ∈ B → d < K.sc ∨ (100 ≤ d ∧ d < 100 + K.nv i) := fun d hd => codes (2 * i) i (by omega) (by omega) d (by rw [g1]; exact List.mem_append_right _ (List.mem_cons_of_mem _ (List.mem_append_right _ hd)))
      have nvi := (hK.2.2.2.2 i hi).2.1
      have hmem : ∀ d, d ∈ xp G' → (d < K.sc ∨ (100 ≤ d ∧ d < 100 + K.nv i)) ∨ d = 99999 := by
        intro d hd
        rw [G1] at hd
        rcases List.mem_append.mp hd with q | q
        · exact Or.inl (cA d q)
        · rcases List.mem_append.mp q with q | q
          · simp only [xp, List.append_nil, List.mem_cons, List.not_mem_nil, or_false] at q
            exact Or.inr q
          · exact Or.inl (cB d q)
      have eq1 : ufm (fun d => if d < 100 then [d] else xp ((fun d => if d = 99999 then To else uTn K i j rt sy ρ (0 + K.fa i (d - 100))) d)) (xp G') = uS0 K i j p rt sy ρ := by
        rw [G1, ufm_ap, ufm_ap]
        have p1 : ufm (fun d => if d < 100 then [d] else xp ((fun d => if d = 99999 then To else uTn K i j rt sy ρ (0 + K.fa i (d - 100))) d)) A = ufm (uEr K i j i 0 rt sy ρ) A := ufm_c (fun d hd => by
          have := cA d hd
          unfold uEr
          dsimp only
          rw [if_neg (show ¬ d = 99999 by omega)])
        have p2 : ufm (fun d => if d < 100 then [d] else xp ((fun d => if d = 99999 then To else uTn K i j rt sy ρ (0 + K.fa i (d - 100))) d)) B = ufm (uEr K i j i 0 rt sy ρ) B := ufm_c (fun d hd => by
          have := cB d hd
          unfold uEr
          dsimp only
          rw [if_neg (show ¬ d = 99999 by omega)])
        rw [p1, p2]
        have p3 : ufm (fun d => if d < 100 then [d] else xp ((fun d => if d = 99999 then To else uTn K i j rt sy ρ (0 + K.fa i (d - 100))) d)) (xp (.branch 99999 (.leaf ()) (.leaf ()))) = xp To := by
          simp only [xp, List.append_nil, ufm]
          rw [if_neg (by omega), if_pos trivial]
        rw [p3, to1]
        unfold uS0
        rw [← hAB.1, ← hAB.2, zKv_row]
      refine ⟨xsb (fun d => if d = 99999 then To else uTn K i j rt sy ρ (0 + K.fa i (d - 100))) G', ?_, ?_, ?_, fun d hd => ?_⟩
      · rw [← ufm_sb ha G' hG']; exact eq1
      · refine xsb_w _ hG' (fun d hd h100 => ?_)
        by_cases hd9 : d = 99999
        · rw [if_pos hd9]; exact ⟨by rw [to3, o2], to2⟩
        · rw [if_neg hd9]
          have := hmem d hd
          exact ⟨(hv i 0 (d - 100) (Or.inl ⟨rfl, rfl⟩) (by omega)).2.1, (hv i 0 (d - 100) (Or.inl ⟨rfl, rfl⟩) (by omega)).1⟩
      · rw [xsb_l _ (fun d hd h100 => ?_), G2, w2]
        by_cases hd9 : d = 99999
        · rw [if_pos hd9, to3, o2]
        · rw [if_neg hd9]
          have := hmem d hd
          exact (hv i 0 (d - 100) (Or.inl ⟨rfl, rfl⟩) (by omega)).2.1
      · rw [← ufm_sb ha G' hG'] at hd
        have key : ∀ L : List Nat, (∀ d, d ∈ L → (d < K.sc ∨ (100 ≤ d ∧ d < 100 + K.nv i)) ∨ d = 99999) → d ∈ ufm (fun d => if d < 100 then [d] else xp ((fun d => if d = 99999 then To else uTn K i j rt sy ρ (0 + K.fa i (d - 100))) d)) L → d < K.sc ∨ 100 ≤ d := by
          intro L
          induction L with
          | nil => intro _ h; cases h
          | cons d' L ih =>
            intro hL hm
            simp only [ufm] at hm
            rcases List.mem_append.mp hm with q | q
            · have hd' := hL d' (List.mem_cons_self ..)
              by_cases hd100 : d' < 100
              · rw [if_pos hd100, List.mem_singleton] at q
                omega
              · rw [if_neg hd100] at q
                by_cases hd9 : d' = 99999
                · rw [if_pos hd9] at q; exact to4 d q
                · rw [if_neg hd9] at q
                  exact (hv i 0 (d' - 100) (Or.inl ⟨rfl, rfl⟩) (by omega)).2.2 d q
            · exact ih (fun d hd => hL d (List.mem_cons_of_mem _ hd)) q
        exact key (xp G') hmem hd
  obtain ⟨T, t1, t2, t3, t4⟩ := pre
  have hin : ∀ c, c ∈ uSs K i j p rt sy ρ side → 100 ≤ c → c ∈ uSN K i j p rt sy ρ := by
    intro c hc h100
    refine unb_mem _ _ c ?_ h100
    unfold uSs at hc
    by_cases hs : side = 1
    · rw [if_pos hs] at hc; exact List.mem_append_right _ hc
    · rw [if_neg hs] at hc; exact List.mem_append_left _ hc
  refine ⟨xmp (fun c => if c < 100 then c else 1000 + uix (uSN K i j p rt sy ρ) c) T, ?_, xmp_w (fun c => ?_) T t2, by rw [xmp_l, t3], fun c hc => ?_⟩
  · rw [xmp_p, t1, e1]; rfl
  · by_cases hc : c < 100
    · rw [if_pos hc]
    · rw [if_neg hc, zar_v (by omega), zar_v (by omega)]
  · rw [e1] at hc
    simp only [uot, List.mem_map] at hc
    obtain ⟨d, d1, d2⟩ := hc
    have hd := t4 d (by rw [t1]; exact d1)
    by_cases hd100 : d < 100
    · rw [if_pos hd100] at d2; omega
    · rw [if_neg hd100] at d2
      have := uix_lt _ d (hin d d1 (by omega))
      omega
end RT
