/-! write, result and feed, class and model -/
section OPS2
variable {X : tX} {hp sp tp : Nat} {I : tI} {J : tJ}
theorem z_write {x y : Int32} {red : Bool} (h : zIn I J hp sp) : cwp X 106 [.ref 0, .int x, .int y, .int (nI (zbi red))] zE I J (zR hp sp tp) (zPo X 173 [.ref 240, .int x, .int y, .int (nI (zbi red))]) := by
  obtain ⟨K, m, b, W, Ro, p, hK, hm, hb, hh, hC, hM⟩ := id h
  obtain ⟨c1, c2, c3, c4, c5, c6, c7, c8, c9⟩ := id hC
  have hl := (uML_ok (K := K)).1
  have cl : ∀ I1 W', ufW I I1 → uFK K I1 → zWb W' I1 → zCi K m b W' Ro p I1 J := fun I1 W' f1 k1 w1 => zCi_A hK hC ⟨fun o o1 o2 => f1.1 o o1 (by omega), fun k k1 _ => f1.2 k k1, rfl⟩ (Or.inr k1) (uOC_o c5 (fun o _ _ => f1.1 o (by omega) (by omega))) (uSC_o c6 (f1.2 _ (by decide))) w1
  have fin : ∀ I1 I2 W' hp' sp', ((hp' = 208 ∧ sp' = 209) ∨ (hp' = 209 ∧ sp' = 208)) → zCi K m b W' Ro p I1 J → zMi K m b W Ro p I1 → ufV I1 I2 → uMK K I2 → zMp W' I2 → zIn I2 J hp' sp' := by
    intro I1 I2 W' hp' sp' hh' C1 M1 f2 k2 w2
    have g : ∀ k, k < 39 ∨ (40 < k ∧ k < 52) → I2 240 k = I1 240 k := fun k hk => f2.2 k (by omega) (by omega) (by omega) (by omega) (by omega) (by omega) (by omega) (by omega) (by omega) (by omega)
    exact ⟨K, m, b, W', Ro, p, hK, hm, hb, hh', zCi_s hK C1 (fun o ho => f2.1 o (by omega) (by omega)), zMi_B M1 ⟨fun o o1 o2 => f2.1 o o1 (by omega), fun k hk => g k (by omega)⟩ (Or.inr k2) (uOM_o M1.2.2.2.2.1 (f2.1 _ (by decide) (by omega)) (fun k hk => g k (by omega))) w2⟩
  refine c_Tr_write hh hK c1 c4 c7 (fun k s hk ex hs ey hp' sp' I1 v w hh' hv f1 k1 w1 => ⟨v, rfl, rfl, ?_⟩) (fun hno I1 f1 k1 w1 => ⟨_, rfl, rfl, ?_⟩)
  · have C1 := cl I1 _ f1 k1 w1
    have M1 : zMi K m b W Ro p I1 := zMi_s hM (fun o ho => f1.1 o (by omega) (by omega))
    refine c_Md_write hK M1.1 M1.2.2.2.1 M1.2.2.2.2.2.1 (fun k' s' hk' ex' hs' ey' => ?_) (fun hno I2 f2 k2 w2 => ?_)
    · have ek : k' = k := (nI_eq (by omega) (by omega)).mp (ex'.symm.trans ex)
      have es : s' = s := (nI_eq (by omega) (by omega)).mp (ey'.symm.trans ey)
      subst ek es
      exact ⟨v, w, hv, fun I2 f2 k2 w2 => ⟨rfl, rfl, hp', sp', tp, rfl, fin I1 I2 _ hp' sp' hh' C1 M1 f2 k2 w2⟩⟩
    · rcases hno with q | q
      · exact absurd ex (q k hk)
      · exact absurd ey (q s hs)
  · have C1 := cl I1 _ f1 k1 w1
    have M1 : zMi K m b W Ro p I1 := zMi_s hM (fun o ho => f1.1 o (by omega) (by omega))
    refine c_Md_write hK M1.1 M1.2.2.2.1 M1.2.2.2.2.2.1 (fun k' s' hk' ex' hs' ey' => ?_) (fun _ I2 f2 k2 w2 => ?_)
    · rcases hno with q | q
      · exact absurd ex' (q k' hk')
      · exact absurd ey' (q s' hs')
    · exact ⟨rfl, rfl, hp, sp, tp, rfl, fin I1 I2 _ hp sp hh C1 M1 f2 k2 w2⟩
theorem z_result (h : zIn I J hp sp) : cwp X 108 [.ref 0] zE I J (zR hp sp tp) (zPo X 178 [.ref 240]) := by
  obtain ⟨K, m, b, W, Ro, p, hK, hm, hb, hh, hC, hM⟩ := id h
  obtain ⟨c1, c2, c3, c4, c5, c6, c7, c8, c9⟩ := id hC
  refine c_Tr_result c8 c7 (fun I1 v w hv f1 g1 w1 => ⟨v, rfl, rfl, ?_⟩)
  have C1 : zCi K m b (w.getD W) Ro p I1 J := zCi_A hK hC ⟨fun o o1 o2 => f1 o o1 (by omega), fun k k1 _ => g1 k k1, rfl⟩ (uFk_o c4 (fun o _ _ => f1 o (by omega) (by omega))) (uOC_o c5 (fun o _ _ => f1 o (by omega) (by omega))) (uSC_o c6 (g1 _ (by decide))) w1
  have M1 : zMi K m b W Ro p I1 := zMi_s hM (fun o ho => f1 o (by omega) (by omega))
  obtain ⟨m1, m2, m3, m4, m5, m6, m7, m8⟩ := id M1
  refine c_Md_result hK m1 m7 m6 hv (fun I2 f2 w2 => ⟨rfl, rfl, hp, sp, tp, rfl, K, m, b, w.getD W, Ro, p, hK, hm, hb, hh, zCi_s hK C1 (fun o ho => f2.1 o (by omega) (by omega) (by omega) (by omega)), ?_⟩)
  exact zMi_B M1 ⟨fun o o1 o2 => f2.1 o o1 (by omega) (by omega) (by omega), fun k hk => f2.2 k (by omega) (by omega)⟩ (uMn_o m4 (fun o o1 o2 => f2.1 o (by omega) (by omega) (by omega) (by omega)) (fun k hk => f2.2 k (by omega) (by omega))) (uOM_o m5 (f2.1 _ (by decide) (by decide) (by decide) (by decide)) (fun k hk => f2.2 k (by omega) (by omega))) w2
/-- a byte, as both sides lay it -/
theorem zby (y : Int32) : ∃ v, v < 256 ∧ y &&& nI 255 = nI v ∧ y.toInt8 = (nI v).toInt8 := by
  have e : (y.toBitVec &&& 255#32).toNat = y.toBitVec.toNat % 256 := by
    rw [BitVec.toNat_and]
    exact Nat.and_two_pow_sub_one_eq_mod _ 8
  refine ⟨(y.toBitVec &&& 255#32).toNat, ?_, ?_, ?_⟩
  · rw [e]; exact Nat.mod_lt _ (by decide)
  · apply Int32.toBitVec_inj.mp
    apply BitVec.eq_of_toNat_eq
    show (y.toBitVec &&& 255#32).toNat = (BitVec.ofNat 32 (y.toBitVec &&& 255#32).toNat).toNat
    rw [BitVec.ofNat_toNat]
    rfl
  · apply Int8.toBitVec_inj.mp
    apply BitVec.eq_of_toInt_eq
    rw [e]
    show (BitVec.signExtend 8 y.toBitVec).toInt = (BitVec.signExtend 8 (BitVec.ofNat 32 (y.toBitVec.toNat % 256))).toInt
    apply congrArg
    apply BitVec.eq_of_toNat_eq
    rw [BitVec.signExtend_eq_setWidth_of_le _ (by decide), BitVec.signExtend_eq_setWidth_of_le _ (by decide)]
    simp
theorem zbmc (x : Int32) (k : Nat) : ∃ v, v < 256 ∧ zbm x k = nI v ∧ zbc x k = sb_b v := by
  obtain ⟨v, h1, h2, h3⟩ := zby (x >>> (nI k &&& 31))
  refine ⟨v, h1, h2, ?_⟩
  unfold zbc
  rw [vp_nar_byte, h3]
  show (sb_b v).toInt8.toInt32 = sb_b v
  unfold sb_b
  rw [Int8.toInt8_toInt32]
def zFd (f g : Nat → Int32) (b : Nat → Nat) (s : Nat) : Prop := (∀ i, i < s → b i < 256) ∧ (∀ i, i < s → f i = sb_b (b i)) ∧ ∀ i, i < s → g i = nI (b i)
theorem zFd_1 {f g : Nat → Int32} {b : Nat → Nat} {s : Nat} (x : Int32) (k : Nat) (h : zFd f g b s) : ∃ b', zFd (va_up f s (zbc x k)) (va_up g s (zbm x k)) b' (s + 1) := by
  obtain ⟨v, h1, h2, h3⟩ := zbmc x k
  refine ⟨va_up b s v, fun i hi => ?_, fun i hi => ?_, fun i hi => ?_⟩
  · by_cases e : i = s
    · subst e; rw [zu_s]; exact h1
    · rw [zu_n e]; exact h.1 i (by omega)
  · by_cases e : i = s
    · subst e; rw [zu_s, zu_s]; exact h3
    · rw [zu_n e, zu_n e]; exact h.2.1 i (by omega)
  · by_cases e : i = s
    · subst e; rw [zu_s, zu_s]; exact h2
    · rw [zu_n e, zu_n e]; exact h.2.2 i (by omega)
theorem zFd_4 {f g : Nat → Int32} {b : Nat → Nat} {s : Nat} (x : Int32) (h : zFd f g b s) : ∃ b', zFd (z4c f s x) (z4m g s x) b' (s + 4) := by
  obtain ⟨b1, h1⟩ := zFd_1 x 24 h
  obtain ⟨b2, h2⟩ := zFd_1 x 16 h1
  obtain ⟨b3, h3⟩ := zFd_1 x 8 h2
  obtain ⟨b4, h4⟩ := zFd_1 x 0 h3
  exact ⟨b4, h4⟩
theorem zFd_20 {f g : Nat → Int32} {b0 : Nat → Nat} {s : Nat} (a b c d e : Int32) (h : zFd f g b0 s) : ∃ b', zFd (z20c f s a b c d e) (z20m g s a b c d e) b' (s + 20) := by
  obtain ⟨b1, h1⟩ := zFd_4 a h
  obtain ⟨b2, h2⟩ := zFd_4 b h1
  obtain ⟨b3, h3⟩ := zFd_4 c h2
  obtain ⟨b4, h4⟩ := zFd_4 d h3
  obtain ⟨b5, h5⟩ := zFd_4 e h4
  exact ⟨b5, h5⟩
theorem z_feed {x1 x2 x3 x4 x5 : Int32} (h : zIn I J hp sp) : cwp X 11 [.ref 0, .int x1, .int x2, .int x3, .int x4, .int x5] zE I J (zR hp sp tp) (zPo X 111 [.ref 240, .int x1, .int x2, .int x3, .int x4, .int x5]) := by
  obtain ⟨K, m, b, W, Ro, p, hK, hm, hb, hh, hC, hM⟩ := id h
  obtain ⟨c1, c2, c3, c4, c5, c6, c7, c8, c9⟩ := id hC
  obtain ⟨m1, m2, m3, m4, m5, m6, m7, m8⟩ := id hM
  by_cases hc : m + 20 ≤ 4000
  · refine c_Tr_feed hm c2 ?_
    rw [if_pos hc]
    refine ⟨_, rfl, rfl, ?_⟩
    generalize hI1 : va_up (va_up I 0 (va_up (I 0) 1 (nI (m + 20)))) 1 (z20c (I 1) m x1 x2 x3 x4 x5) = I1
    have f1 : ∀ o, o ≠ 0 → o ≠ 1 → I1 o = I o := fun o o1 o2 => by rw [← hI1, zu_n o2, zu_n o1]
    have g1 : ∀ k, k ≠ 1 → I1 0 k = I 0 k := fun k hk => by rw [← hI1, zu_n (by decide), zu_s, zu_n hk]
    have n1 : I1 0 1 = nI (m + 20) := by rw [← hI1, zu_n (by decide), zu_s, zu_s]
    have t1 : I1 1 = z20c (I 1) m x1 x2 x3 x4 x5 := by rw [← hI1, zu_s]
    refine c_Md_feed hm (by rw [f1 _ (by decide) (by decide)]; exact m2) ?_
    rw [if_pos hc]
    refine ⟨rfl, rfl, hp, sp, tp, rfl, ?_⟩
    generalize hI2 : va_up (va_up I1 240 (va_up (I1 240) 1 (nI (m + 20)))) 241 (z20m (I1 241) m x1 x2 x3 x4 x5) = I2
    have f2 : ∀ o, o ≠ 240 → o ≠ 241 → I2 o = I1 o := fun o o1 o2 => by rw [← hI2, zu_n o2, zu_n o1]
    have g2 : ∀ k, k ≠ 1 → I2 240 k = I 240 k := fun k hk => by rw [← hI2, zu_n (by decide), zu_s, zu_n hk, f1 _ (by decide) (by decide)]
    have n2 : I2 240 1 = nI (m + 20) := by rw [← hI2, zu_n (by decide), zu_s, zu_s]
    have t2 : I2 241 = z20m (I 241) m x1 x2 x3 x4 x5 := by rw [← hI2, zu_s, f1 _ (by decide) (by decide)]
    obtain ⟨b', d1, d2, d3⟩ := zFd_20 x1 x2 x3 x4 x5 (f := I 1) (g := I 241) (b0 := b) (s := m) ⟨hb, c3, m3⟩
    have e : ∀ o, o ≠ 0 → o ≠ 1 → o ≠ 240 → o ≠ 241 → I2 o = I o := fun o o1 o2 o3 o4 => by rw [f2 o o3 o4, f1 o o1 o2]
    have e0 : ∀ k, k ≠ 1 → I2 0 k = I 0 k := fun k hk => by rw [f2 0 (by decide) (by decide), g1 k hk]
    refine ⟨K, m + 20, b', W, Ro, p, hK, hc, d1, hh, ⟨?_, ?_, ?_, ?_, ?_, ?_, ?_, ?_, ?_⟩, ⟨?_, n2, ?_, ?_, ?_, ?_, ?_, ?_⟩⟩
    · exact zKC_in hK c1 (fun o o1 o2 => e o (by omega) (by omega) (by omega) (by omega)) rfl
    · rw [f2 0 (by decide) (by decide)]; exact n1
    · intro i hi; rw [f2 1 (by decide) (by decide), t1]; exact d2 i hi
    · exact uFk_o c4 (fun o o1 o2 => e o (by omega) (by omega) (by omega) (by omega))
    · exact uOC_o c5 (fun o o1 o2 => e o (by omega) (by omega) (by omega) (by omega))
    · exact uSC_o c6 (e0 _ (by decide))
    · exact zWb_o c7 (e0 _ (by decide)) (e _ (by decide) (by decide) (by decide) (by decide))
    · exact zRb_fr c8 (e0 _ (by decide)) (e _ (by decide) (by decide) (by decide) (by decide))
    · rw [e0 _ (by decide)]; exact c9
    · exact zKM_a m1 (fun o o1 o2 => e o (by omega) (by omega) (by omega) (by omega)) (fun k hk => g2 k (by omega))
    · intro i hi; rw [t2]; exact d3 i hi
    · exact uMn_o m4 (fun o o1 o2 => e o (by omega) (by omega) (by omega) (by omega)) (fun k hk => g2 k (by omega))
    · exact uOM_o m5 (e _ (by decide) (by decide) (by decide) (by decide)) (fun k hk => g2 k (by omega))
    · exact zMp_fr m6 (g2 _ (by decide)) (e _ (by decide) (by decide) (by decide) (by decide))
    · exact zRm_fr m7 (fun k hk => g2 k (by omega)) (fun o o1 o2 => e o (by omega) (by omega) (by omega) (by omega))
    · rw [g2 _ (by decide)]; exact m8
  · refine c_Tr_feed hm c2 ?_
    rw [if_neg hc]
    refine ⟨_, rfl, rfl, ?_⟩
    refine c_Md_feed hm m2 ?_
    rw [if_neg hc]
    exact ⟨rfl, rfl, hp, sp, tp, rfl, h⟩
end OPS2
