/-! the two fronts as one row of nodes: the second from B on -/
def uw (K : tK) (i j B x : Nat) : Nat := if x < B then K.w (2 * i) x else K.w (2 * j) (x - B)
def ua (K : tK) (i j B x : Nat) : Nat := zar K.sa (uw K i j B x)
/-- codes: variables of the second are others than those of the first -/
def ucd (K : tK) (i j B x : Nat) : Nat := if x < B then K.w (2 * i) x else if K.w (2 * j) (x - B) < 100 then K.w (2 * j) (x - B) else K.w (2 * j) (x - B) + 100
def und (K : tK) (i j B x : Nat) : Prop := x < K.n (2 * i) ∨ (B ≤ x ∧ x < B + K.n (2 * j))
/-- the nodes that are joined: the part at p, the second front, the first front's variables -/
def uIn (K : tK) (i j p B x : Nat) : Prop := (p ≤ x ∧ x < zen (K.a (2 * i)) p) ∨ (B ≤ x ∧ x < B + K.n (2 * j)) ∨ (x < K.n (2 * i) ∧ 100 ≤ K.w (2 * i) x)
noncomputable def uch (K : tK) (i j B x k : Nat) : Nat := zcpt (ua K i j B) x k
theorem zS_up {a a' : Nat → Nat} {d k p e : Nat} (h : zS a k p e) (ha : ∀ x, p ≤ x → x < e → a' (x + d) = a x) : zS a' k (p + d) (e + d) := by
  obtain ⟨f, h⟩ := h
  induction f generalizing k p with
  | zero =>
    cases k with
    | zero => cases h; exact zS_0
    | succ k => cases h
  | succ f ih =>
    cases k with
    | zero => rw [zsc_0] at h; cases h; exact zS_0
    | succ k =>
      have h' : zsc a f (k + a p) (p + 1) = some e := h
      have hle := zS_le (a := a) ⟨f, h'⟩
      have := ih (fun x hx hx' => ha x (by omega) hx') h'
      refine zS_s ?_
      rw [ha p (Nat.le_refl _) (by omega), show p + d + 1 = p + 1 + d by omega]
      exact this
section FR
variable {K : tK} {i j p B : Nat}
theorem uar (x : Nat) : zar K.sa (ucd K i j B x) = ua K i j B x := by
  unfold ucd ua uw
  by_cases h : x < B
  · rw [if_pos h, if_pos h]
  · rw [if_neg h, if_neg h]
    by_cases h2 : K.w (2 * j) (x - B) < 100
    · rw [if_pos h2]
    · rw [if_neg h2, zar_v (by omega), zar_v (by omega)]
theorem ucd_s {x : Nat} : (ucd K i j B x < 100 ↔ uw K i j B x < 100) ∧ (ucd K i j B x < 100 → ucd K i j B x = uw K i j B x) := by
  unfold ucd uw
  by_cases h : x < B
  · rw [if_pos h, if_pos h]; exact ⟨Iff.rfl, fun _ => rfl⟩
  · rw [if_neg h, if_neg h]
    by_cases h2 : K.w (2 * j) (x - B) < 100
    · rw [if_pos h2]; exact ⟨Iff.rfl, fun _ => rfl⟩
    · rw [if_neg h2]; exact ⟨by omega, fun q => by omega⟩
theorem u_S (hK : zKv K) (hi : i < K.rd) (hj : j < K.rd) (hB : 40 ≤ B) {x : Nat} (hx : und K i j B x) : zS (ua K i j B) 1 x (zen (ua K i j B) x) ∧ x < zen (ua K i j B) x ∧ (x < B → zen (ua K i j B) x = zen (K.a (2 * i)) x ∧ zen (ua K i j B) x ≤ K.n (2 * i)) ∧ (B ≤ x → zen (ua K i j B) x = B + zen (K.a (2 * j)) (x - B) ∧ zen (ua K i j B) x ≤ B + K.n (2 * j)) := by
  have n1 := (hK.2.2.2.1 (2 * i) (by omega)).2.2.1
  by_cases hb : x < B
  · have hx' : x < K.n (2 * i) := by rcases hx with q | q <;> omega
    obtain ⟨z1, z2, z3⟩ := zKv_c hK (s := 2 * i) (by omega) hx'
    have := zS_loc (a' := ua K i j B) z1 (fun y _ hy => by
      show zar K.sa (uw K i j B y) = K.a (2 * i) y
      unfold uw
      rw [if_pos (by omega)]
      rfl)
    have e := zen_eq this
    have l := zS_le this
    rw [e]
    exact ⟨this, by omega, fun _ => ⟨rfl, z2⟩, fun q => by omega⟩
  · have hx' : x - B < K.n (2 * j) := by rcases hx with q | q <;> omega
    obtain ⟨z1, z2, z3⟩ := zKv_c hK (s := 2 * j) (by omega) hx'
    have := zS_up (a' := ua K i j B) (d := B) z1 (fun y _ hy => by
      show zar K.sa (uw K i j B (y + B)) = K.a (2 * j) y
      unfold uw
      rw [if_neg (by omega), Nat.add_sub_cancel]
      rfl)
    rw [Nat.sub_add_cancel (by omega)] at this
    have e := zen_eq this
    have l := zS_le this
    rw [e]
    exact ⟨this, by omega, fun q => by omega, fun _ => ⟨by omega, by omega⟩⟩
theorem u_ch (hK : zKv K) (hi : i < K.rd) (hj : j < K.rd) (hB : 40 ≤ B) {x : Nat} (hx : und K i j B x) {k : Nat} (hk : k < ua K i j B x) : x < uch K i j B x k ∧ uch K i j B x k < uch K i j B x (k + 1) ∧ uch K i j B x (k + 1) ≤ zen (ua K i j B) x ∧ und K i j B (uch K i j B x k) ∧ (x < B ↔ uch K i j B x k < B) ∧ zen (ua K i j B) (uch K i j B x k) = uch K i j B x (k + 1) := by
  have n1 := (hK.2.2.2.1 (2 * i) (by omega)).2.2.1
  obtain ⟨z1, z2, z3, z4⟩ := u_S hK hi hj hB hx
  obtain ⟨c1, c2, c3, c4⟩ := zcpt_1 z1 hk
  have h5 : und K i j B (uch K i j B x k) := by
    by_cases hb : x < B
    · have := (z3 hb).2
      exact Or.inl (by unfold uch; omega)
    · have := (z4 (by omega)).2
      exact Or.inr (by unfold uch; omega)
  refine ⟨c2, c3, c4, h5, ?_, zen_eq c1⟩
  constructor
  · intro hb; have := (z3 hb).2; unfold uch; omega
  · intro hb; unfold uch at hb; omega
theorem u_In (hK : zKv K) (hi : i < K.rd) (hj : j < K.rd) (hB : 40 ≤ B) (hp : p < K.n (2 * i)) {x : Nat} (hx : uIn K i j p B x) : und K i j B x ∧ ∀ k, k < ua K i j B x → uIn K i j p B (uch K i j B x k) := by
  have n1 := (hK.2.2.2.1 (2 * i) (by omega)).2.2.1
  obtain ⟨y1, y2, _⟩ := zKv_c hK (s := 2 * i) (by omega) hp
  have hnd : und K i j B x := by
    rcases hx with ⟨q1, q2⟩ | q | q
    · exact Or.inl (by omega)
    · exact Or.inr q
    · exact Or.inl q.1
  refine ⟨hnd, fun k hk => ?_⟩
  obtain ⟨c1, c2, c3, c4, c5, c6⟩ := u_ch hK hi hj hB hnd hk
  obtain ⟨z1, z2, z3, z4⟩ := u_S hK hi hj hB hnd
  by_cases hb : x < B
  · rcases hx with ⟨q1, q2⟩ | q | q
    · left
      have h1 := (z3 hb).1
      -- nested terms
      obtain ⟨e, e1, e2⟩ := zS_sub y1 q1 q2
      have h2 := zen_eq e1
      exact ⟨by omega, by omega⟩
    · omega
    · exfalso
      unfold ua uw at hk
      rw [if_pos hb, zar_v q.2] at hk
      omega
  · right; left
    have := (z4 (by omega)).2
    omega
theorem u_wf (hK : zKv K) (hi : i < K.rd) (hj : j < K.rd) (hB : 40 ≤ B) (hp : p < K.n (2 * i)) : uwf (uIn K i j p B) (ucd K i j B) (uch K i j B) (zar K.sa) := ⟨fun c hc => zar_v hc, fun x hx k hk => (u_In hK hi hj hB hp hx).2 k (by rw [← uar]; exact hk)⟩
/-- whether the part p of the front of i and the front of j can be made the same -/
def uGd (K : tK) (i j p B : Nat) : Prop := ∃ E, ucl (uIn K i j p B) (ucd K i j B) (uch K i j B) (zar K.sa) p B E ∧ uok (uIn K i j p B) (ucd K i j B) (uch K i j B) (zar K.sa) E
theorem upull {In In' : Nat → Prop} {cd cd' : Nat → Nat} {ch ch' : Nat → Nat → Nat} {ar : Nat → Nat} {p q p' q' : Nat} {ψ : Nat → Nat} (h1 : ∀ x, In x → In' (ψ x) ∧ cd x = cd' (ψ x)) (h2 : ∀ x, In x → ∀ k, k < ar (cd x) → ψ (ch x k) = ch' (ψ x) k) (hp : ψ p = p') (hq : ψ q = q') {E : Nat → Nat → Prop} (hc : ucl In' cd' ch' ar p' q' E) (ho : uok In' cd' ch' ar E) : ucl In cd ch ar p q (fun x y => E (ψ x) (ψ y)) ∧ uok In cd ch ar (fun x y => E (ψ x) (ψ y)) := by
  obtain ⟨c1, c2, c3, c4, c5, c6⟩ := hc
  obtain ⟨o1, ρ, o2, o3⟩ := ho
  refine ⟨⟨fun x => c1 _, fun x y => c2 _ _, fun x y z => c3 _ _ _, (by dsimp only; rw [hp, hq]; exact c4), fun x y ix iy hx hxy => c5 _ _ (h1 x ix).1 (h1 y iy).1 (by rw [← (h1 x ix).2]; exact hx) (by rw [← (h1 x ix).2, ← (h1 y iy).2]; exact hxy), fun x y k ix iy hx hxy e hk => ?_⟩, ⟨fun x y ix iy hx hy e => ?_, fun x => ρ (ψ x), fun x y e => o2 _ _ e, fun x k ix hx hk => ?_⟩⟩
  · dsimp only
    rw [h2 x ix k hk, h2 y iy k (by rw [← hxy]; exact hk)]
    exact c6 _ _ k (h1 x ix).1 (h1 y iy).1 (by rw [← (h1 x ix).2]; exact hx) (by rw [← (h1 x ix).2, ← (h1 y iy).2]; exact hxy) e (by rw [← (h1 x ix).2]; exact hk)
  · rw [(h1 x ix).2, (h1 y iy).2]
    exact o1 _ _ (h1 x ix).1 (h1 y iy).1 (by rw [← (h1 x ix).2]; exact hx) (by rw [← (h1 y iy).2]; exact hy) e
  · dsimp only
    rw [h2 x ix k hk]
    exact o3 _ k (h1 x ix).1 (by rw [← (h1 x ix).2]; exact hx) (by rw [← (h1 x ix).2]; exact hk)
/-- a node's parts are those of its own side -/
theorem u_cp (hK : zKv K) (hi : i < K.rd) (hj : j < K.rd) (hB : 40 ≤ B) {x : Nat} (hx : und K i j B x) : ∀ k, k ≤ ua K i j B x → (x < B → uch K i j B x k = zcpt (K.a (2 * i)) x k) ∧ (B ≤ x → uch K i j B x k = B + zcpt (K.a (2 * j)) (x - B) k)
  | 0, _ => ⟨fun _ => rfl, fun _ => by show x + 1 = B + (x - B + 1); omega⟩
  | k + 1, hk => by
    obtain ⟨h1, h2⟩ := u_cp hK hi hj hB hx k (by omega)
    obtain ⟨c1, c2, c3, c4, c5, c6⟩ := u_ch hK hi hj hB hx (k := k) (by omega)
    obtain ⟨z1, z2, z3, z4⟩ := u_S hK hi hj hB c4
    refine ⟨fun hb => ?_, fun hb => ?_⟩
    · rw [← c6, (z3 (c5.mp hb)).1, h1 hb]; rfl
    · have hb' : B ≤ uch K i j B x k := by have := c5; omega
      rw [← c6, (z4 hb').1, h2 hb]
      show B + zen (K.a (2 * j)) (B + zcpt (K.a (2 * j)) (x - B) k - B) = B + zen (K.a (2 * j)) (zcpt (K.a (2 * j)) (x - B) k)
      rw [Nat.add_sub_cancel_left]
/-- a node's place for another B -/
def umv (B B' x : Nat) : Nat := if x < B then x else x - B + B'
theorem umv_ok (hK : zKv K) (hi : i < K.rd) (hj : j < K.rd) (hp : p < K.n (2 * i)) {B B' : Nat} (hB : 40 ≤ B) (hB' : 40 ≤ B') : (∀ x, uIn K i j p B x → uIn K i j p B' (umv B B' x) ∧ ucd K i j B x = ucd K i j B' (umv B B' x)) ∧ (∀ x, uIn K i j p B x → ∀ k, k < ua K i j B x → umv B B' (uch K i j B x k) = uch K i j B' (umv B B' x) k) := by
  have n1 := (hK.2.2.2.1 (2 * i) (by omega)).2.2.1
  obtain ⟨y1, y2, _⟩ := zKv_c hK (s := 2 * i) (by omega) hp
  have h1 : ∀ x, uIn K i j p B x → uIn K i j p B' (umv B B' x) ∧ ucd K i j B x = ucd K i j B' (umv B B' x) ∧ uw K i j B x = uw K i j B' (umv B B' x) := by
    intro x hx
    unfold umv
    by_cases hb : x < B
    · rw [if_pos hb]
      rcases hx with ⟨q1, q2⟩ | q | q
      · refine ⟨Or.inl ⟨q1, q2⟩, ?_, ?_⟩
        · unfold ucd; rw [if_pos hb, if_pos (by omega)]
        · unfold uw; rw [if_pos hb, if_pos (by omega)]
      · omega
      · refine ⟨Or.inr (Or.inr q), ?_, ?_⟩
        · unfold ucd; rw [if_pos hb, if_pos (by omega)]
        · unfold uw; rw [if_pos hb, if_pos (by omega)]
    · rw [if_neg hb]
      have hx' : B ≤ x ∧ x < B + K.n (2 * j) := by rcases hx with q | q <;> omega
      refine ⟨Or.inr (Or.inl ⟨by omega, by omega⟩), ?_, ?_⟩
      · unfold ucd; rw [if_neg hb, if_neg (show ¬ x - B + B' < B' by omega), Nat.add_sub_cancel]
      · unfold uw; rw [if_neg hb, if_neg (by omega), Nat.add_sub_cancel]
  refine ⟨fun x hx => ⟨(h1 x hx).1, (h1 x hx).2.1⟩, fun x hx k hk => ?_⟩
  obtain ⟨hnd, hin⟩ := u_In hK hi hj hB hp hx
  have hx2 := (h1 x hx).1
  obtain ⟨hnd', hin'⟩ := u_In hK hi hj hB' hp hx2
  have ea : ua K i j B x = ua K i j B' (umv B B' x) := by unfold ua; rw [(h1 x hx).2.2]
  obtain ⟨c1, c2, c3, c4, c5, c6⟩ := u_ch hK hi hj hB hnd hk
  obtain ⟨a1, a2⟩ := u_cp hK hi hj hB hnd k (by omega)
  obtain ⟨b1, b2⟩ := u_cp hK hi hj hB' hnd' k (by omega)
  by_cases hb : x < B
  · have e1 : umv B B' x = x := if_pos hb
    have hx3 : x < K.n (2 * i) := by rcases hx with ⟨q1, q2⟩ | q <;> omega
    rw [e1] at b1 ⊢
    rw [b1 (by omega), ← a1 hb]
    exact if_pos (c5.mp hb)
  · have e1 : umv B B' x = x - B + B' := if_neg hb
    rw [e1] at b2 ⊢
    have e2 : ¬ uch K i j B x k < B := fun q => hb (c5.mpr q)
    rw [b2 (by omega), show umv B B' (uch K i j B x k) = uch K i j B x k - B + B' from if_neg e2, a2 (by omega), Nat.add_sub_cancel_left, Nat.add_sub_cancel]
    omega
theorem uGd_mv (hK : zKv K) (hi : i < K.rd) (hj : j < K.rd) (hp : p < K.n (2 * i)) {B B' : Nat} (hB : 40 ≤ B) (hB' : 40 ≤ B') (h : uGd K i j p B') : uGd K i j p B := by
  obtain ⟨E, e1, e2⟩ := h
  have n1 := (hK.2.2.2.1 (2 * i) (by omega)).2.2.1
  obtain ⟨m1, m2⟩ := umv_ok hK hi hj hp hB hB'
  obtain ⟨f1, f2⟩ := upull (p := p) (q := B) (ψ := umv B B') m1 (fun x hx k hk => m2 x hx k (by rw [← uar]; exact hk)) (if_pos (by omega)) (by unfold umv; rw [if_neg (by omega)]; omega) e1 e2
  exact ⟨_, f1, f2⟩
/-- the classes at the beginning -/
def ujn (K : tK) (i j B x : Nat) : Nat := if uw K i j B x < 100 then x else if x < B then K.fa i (uw K i j B x - 100) else B + K.fa j (uw K i j B x - 100)
def usy (K : tK) (i j B x : Nat) : Option Nat := if uw K i j B x < 100 then some x else none
theorem u_fa (hK : zKv K) (hi : i < K.rd) (hj : j < K.rd) (hB : 40 ≤ B) {x : Nat} (hx : und K i j B x) : und K i j B (ujn K i j B x) ∧ uw K i j B (ujn K i j B x) = uw K i j B x ∧ (x < B ↔ ujn K i j B x < B) ∧ ujn K i j B (ujn K i j B x) = ujn K i j B x ∧ (uw K i j B x < 100 → ujn K i j B x = x) ∧ ucd K i j B (ujn K i j B x) = ucd K i j B x := by
  have n1 := (hK.2.2.2.1 (2 * i) (by omega)).2.2.1
  by_cases hs : uw K i j B x < 100
  · have e : ujn K i j B x = x := if_pos hs
    rw [e, e]
    exact ⟨hx, rfl, Iff.rfl, rfl, fun _ => rfl, rfl⟩
  · by_cases hb : x < B
    · have hx' : x < K.n (2 * i) := by rcases hx with q | q <;> omega
      have ew : uw K i j B x = K.w (2 * i) x := if_pos hb
      have hw := (hK.2.2.2.1 (2 * i) (by omega)).2.2.2 x hx'
      rw [show 2 * i / 2 = i by omega] at hw
      have hsc := hK.2.1
      obtain ⟨f1, f2, f3, f4⟩ := (hK.2.2.2.2 i hi).2.2 (K.w (2 * i) x - 100) (by omega)
      have e : ujn K i j B x = K.fa i (K.w (2 * i) x - 100) := by unfold ujn; rw [if_neg hs, if_pos hb, ew]
      have e2 : uw K i j B (ujn K i j B x) = uw K i j B x := by rw [e, ew]; unfold uw; rw [if_pos (by omega), f3]; omega
      refine ⟨by rw [e]; exact Or.inl f2, e2, by rw [e]; omega, ?_, fun q => absurd q hs, ?_⟩
      · show (if uw K i j B (ujn K i j B x) < 100 then _ else _) = _
        rw [e2, if_neg hs, if_pos (by rw [e]; omega), e, ew]
      · unfold ucd
        rw [if_pos hb, e, if_pos (by omega), f3]
        omega
    · have hx' : x - B < K.n (2 * j) := by rcases hx with q | q <;> omega
      have ew : uw K i j B x = K.w (2 * j) (x - B) := if_neg hb
      have hw := (hK.2.2.2.1 (2 * j) (by omega)).2.2.2 (x - B) hx'
      rw [show 2 * j / 2 = j by omega] at hw
      have hsc := hK.2.1
      obtain ⟨f1, f2, f3, f4⟩ := (hK.2.2.2.2 j hj).2.2 (K.w (2 * j) (x - B) - 100) (by omega)
      have e : ujn K i j B x = B + K.fa j (K.w (2 * j) (x - B) - 100) := by unfold ujn; rw [if_neg hs, if_neg hb, ew]
      have e2 : uw K i j B (ujn K i j B x) = uw K i j B x := by rw [e, ew]; unfold uw; rw [if_neg (by omega), Nat.add_sub_cancel_left, f3]; omega
      refine ⟨by rw [e]; exact Or.inr ⟨by omega, by omega⟩, e2, by rw [e]; omega, ?_, fun q => absurd q hs, ?_⟩
      · show (if uw K i j B (ujn K i j B x) < 100 then _ else _) = _
        rw [e2, if_neg hs, if_neg (by rw [e]; omega), e, ew]
      · unfold ucd
        rw [if_neg hb, e, if_neg (by omega), Nat.add_sub_cancel_left, f3]
        have : 100 + (K.w (2 * j) (x - B) - 100) = K.w (2 * j) (x - B) := by omega
        rw [this]
theorem usm_0 {f : Nat → Nat} : ∀ {n}, (∀ x, x < n → f x = 0) → usm f n = 0
  | 0, _ => rfl
  | n + 1, h => by simp only [usm]; rw [usm_0 (n := n) (fun x hx => h x (by omega)), h n (by omega)]
theorem u_ini (hK : zKv K) (hi : i < K.rd) (hj : j < K.rd) (hp : p < K.n (2 * i)) : uUF (und K i j 40) (uIn K i j p 40) (ucd K i j 40) (zar K.sa) (uch K i j 40) p 40 (ujn K i j 40) (ujn K i j 40) (usy K i j 40) 1 [(p, 40)] (K.n (2 * i) + K.n (2 * j) - 1) := by
  have n1 := (hK.2.2.2.1 (2 * i) (by omega)).2.2.1
  have n2 := (hK.2.2.2.1 (2 * j) (by omega)).2.2.1
  have hB : 40 ≤ 40 := Nat.le_refl _
  obtain ⟨y1, y2, _⟩ := zKv_c hK (s := 2 * i) (by omega) hp
  have yl := zS_le y1
  have m2 : 0 < K.n (2 * j) := by have := zS_le (zKv_e hK (s := 2 * j) (by omega)).1; omega
  have inp : uIn K i j p 40 p := Or.inl ⟨Nat.le_refl _, by omega⟩
  have inq : uIn K i j p 40 40 := Or.inr (Or.inl ⟨Nat.le_refl _, by omega⟩)
  have hind : ∀ x, uIn K i j p 40 x → und K i j 40 x := fun x hx => (u_In hK hi hj hB hp hx).1
  have hcode : ∀ x, und K i j 40 x → 100 ≤ ucd K i j 40 x → (x < 40 → ucd K i j 40 x = uw K i j 40 x ∧ ucd K i j 40 x < 140) ∧ (40 ≤ x → ucd K i j 40 x = uw K i j 40 x + 100 ∧ 200 ≤ ucd K i j 40 x) := by
    intro x hx hc
    have hsc := hK.2.1
    refine ⟨fun hb => ?_, fun hb => ?_⟩
    · have hx' : x < K.n (2 * i) := by rcases hx with q | q <;> omega
      have hw := (hK.2.2.2.1 (2 * i) (by omega)).2.2.2 x hx'
      have hv := (hK.2.2.2.2 i hi).2.1
      rw [show 2 * i / 2 = i by omega] at hw
      unfold ucd uw at *
      rw [if_pos hb] at *
      exact ⟨by rw [if_pos hb], by omega⟩
    · have hx' : x - 40 < K.n (2 * j) := by rcases hx with q | q <;> omega
      unfold ucd uw at *
      rw [if_neg (by omega)] at *
      by_cases h2 : K.w (2 * j) (x - 40) < 100
      · rw [if_pos h2] at hc; omega
      · rw [if_neg h2]; exact ⟨by rw [if_neg (by omega)], by omega⟩
  have hvar : ∀ x y, und K i j 40 x → und K i j 40 y → 100 ≤ ucd K i j 40 x → ucd K i j 40 x = ucd K i j 40 y → ujn K i j 40 x = ujn K i j 40 y := by
    intro x y nx ny hx hxy
    obtain ⟨a1, a2⟩ := hcode x nx hx
    obtain ⟨b1, b2⟩ := hcode y ny (by omega)
    have sx : ¬ uw K i j 40 x < 100 := fun q => by have := (ucd_s (K := K) (i := i) (j := j) (B := 40) (x := x)).1.mpr q; omega
    have sy : ¬ uw K i j 40 y < 100 := fun q => by have := (ucd_s (K := K) (i := i) (j := j) (B := 40) (x := y)).1.mpr q; omega
    unfold ujn
    rw [if_neg sx, if_neg sy]
    by_cases hbx : x < 40 <;> by_cases hby : y < 40
    · rw [if_pos hbx, if_pos hby, ← (a1 hbx).1, ← (b1 hby).1, hxy]
    · have := a1 hbx; have := b2 (by omega); omega
    · have := a2 (by omega); have := b1 hby; omega
    · rw [if_neg hbx, if_neg hby, show uw K i j 40 x = uw K i j 40 y by have := a2 (by omega); have := b2 (by omega); omega]
  refine ⟨fun x nx => ?_, ⟨fun x => if ujn K i j 40 x = x then 0 else 1, fun x nx => ?_⟩, fun r s nr jr hs => ?_, fun x nx hx => ?_, fun x s ix hs => ?_, hvar, fun a ha => ?_, fun E e1 e2 e3 => ?_, fun E e1 e2 => ?_, ?_⟩
  · obtain ⟨f1, f2, f3, f4, f5, f6⟩ := u_fa hK hi hj hB nx
    exact ⟨f1, f1, f4, f4, fun h => h⟩
  · obtain ⟨f1, f2, f3, f4, f5, f6⟩ := u_fa hK hi hj hB nx
    refine ⟨by dsimp only; split <;> omega, fun h => by dsimp only; rw [if_pos h], fun h => ?_⟩
    dsimp only
    rw [if_neg h, if_pos f4]
    omega
  · unfold usy at hs
    split at hs
    · rename_i hw
      cases hs
      exact ⟨nr, (ucd_s (K := K) (i := i) (j := j) (B := 40) (x := r)).1.mpr hw, jr⟩
    · cases hs
  · have hw := (ucd_s (K := K) (i := i) (j := j) (B := 40) (x := x)).1.mp hx
    obtain ⟨f1, f2, f3, f4, f5, f6⟩ := u_fa hK hi hj hB nx
    rw [f5 hw]
    exact ⟨x, if_pos hw, rfl⟩
  · obtain ⟨f1, f2, f3, f4, f5, f6⟩ := u_fa hK hi hj hB (hind x ix)
    unfold usy at hs
    split at hs
    · rename_i hw
      cases hs
      rw [f2] at hw
      rw [f5 hw]
      exact ix
    · cases hs
  · rcases List.mem_cons.mp ha with q | q
    · subst q; exact ⟨inp, inq⟩
    · cases q
  · refine ⟨e3 (p, 40) (List.mem_cons_self ..), fun x s k nx hx hs hk => ?_⟩
    have hw := (ucd_s (K := K) (i := i) (j := j) (B := 40) (x := x)).1.mp hx
    obtain ⟨f1, f2, f3, f4, f5, f6⟩ := u_fa hK hi hj hB nx
    rw [f5 hw] at hs
    unfold usy at hs
    rw [if_pos hw] at hs
    cases hs
    exact e1.1 _
  · refine ⟨fun x y ix iy h => ?_, fun a ha => ?_⟩
    · obtain ⟨f1, f2, f3, f4, f5, f6⟩ := u_fa hK hi hj hB (hind x ix)
      obtain ⟨g1, g2, g3, g4, g5, g6⟩ := u_fa hK hi hj hB (hind y iy)
      rw [h] at f2 f6
      by_cases hw : uw K i j 40 x < 100
      · rw [f5 hw, g5 (by rw [← g2, f2]; exact hw)] at h
        rw [h]; exact e1.1 y
      · refine e1.2.2.2.2.1 x y ix iy ?_ (by rw [← f6, ← g6])
        have := (ucd_s (K := K) (i := i) (j := j) (B := 40) (x := x)).1
        omega
    · rcases List.mem_cons.mp ha with q | q
      · subst q; exact e1.2.2.2.1
      · cases q
  · have key : ∀ x, uwt (und K i j 40) (ucd K i j 40) (zar K.sa) (ujn K i j 40) (usy K i j 40) x = @ite Nat (und K i j 40 x) (Classical.propDecidable _) (ua K i j 40 x) 0 := by
      intro x
      unfold uwt
      by_cases nx : und K i j 40 x
      · obtain ⟨f1, f2, f3, f4, f5, f6⟩ := u_fa hK hi hj hB nx
        by_cases hw : uw K i j 40 x < 100
        · rw [if_pos ⟨nx, f5 hw⟩, if_pos nx]
          unfold usy
          rw [if_pos hw]
          exact uar x
        · have h0 : ua K i j 40 x = 0 := zar_v (by omega)
          rw [if_pos nx, h0]
          split
          · unfold usy; rw [if_neg hw]
          · rfl
      · rw [if_neg (fun q => nx q.1), if_neg nx]
    rw [usm_c (fun x _ => key x)]
    rw [show (80 : Nat) = K.n (2 * i) + ((40 - K.n (2 * i)) + (K.n (2 * j) + (40 - K.n (2 * j)))) by omega, usm_app, usm_app, usm_app]
    have s1 := usm_S (zKv_e hK (s := 2 * i) (by omega)).1
    have s2 := usm_S (zKv_e hK (s := 2 * j) (by omega)).1
    have t1 : usm (fun x => @ite Nat (und K i j 40 x) (Classical.propDecidable _) (ua K i j 40 x) 0) (K.n (2 * i)) = usm (fun x => K.a (2 * i) (0 + x)) (K.n (2 * i) - 0) := by
      refine usm_c (fun x hx => ?_)
      rw [if_pos (show und K i j 40 x from Or.inl hx), Nat.zero_add]
      show zar K.sa (uw K i j 40 x) = zar K.sa (K.w (2 * i) x)
      unfold uw
      rw [if_pos (by omega)]
    have t2 : usm (fun x => @ite Nat (und K i j 40 (K.n (2 * i) + x)) (Classical.propDecidable _) (ua K i j 40 (K.n (2 * i) + x)) 0) (40 - K.n (2 * i)) = 0 := usm_0 (fun x hx => if_neg (fun q => by rcases q with q | q <;> omega))
    have t3 : usm (fun x => @ite Nat (und K i j 40 (K.n (2 * i) + (40 - K.n (2 * i) + x))) (Classical.propDecidable _) (ua K i j 40 (K.n (2 * i) + (40 - K.n (2 * i) + x))) 0) (K.n (2 * j)) = usm (fun x => K.a (2 * j) (0 + x)) (K.n (2 * j) - 0) := by
      refine usm_c (fun x hx => ?_)
      rw [show K.n (2 * i) + (40 - K.n (2 * i) + x) = 40 + x by omega, if_pos (show und K i j 40 (40 + x) from Or.inr ⟨by omega, by omega⟩), Nat.zero_add]
      show zar K.sa (uw K i j 40 (40 + x)) = zar K.sa (K.w (2 * j) x)
      unfold uw
      rw [if_neg (by omega), Nat.add_sub_cancel_left]
    have t4 : usm (fun x => @ite Nat (und K i j 40 (K.n (2 * i) + (40 - K.n (2 * i) + (K.n (2 * j) + x)))) (Classical.propDecidable _) (ua K i j 40 (K.n (2 * i) + (40 - K.n (2 * i) + (K.n (2 * j) + x)))) 0) (40 - K.n (2 * j)) = 0 := usm_0 (fun x hx => if_neg (fun q => by rcases q with q | q <;> omega))
    rw [t1, t2, t3, t4]
    simp only [List.length_cons, List.length_nil]
    rw [Nat.sub_zero] at s1 s2 ⊢
    have : 0 < K.n (2 * i) := by omega
    rw [Nat.sub_zero]
    omega
end FR
