/-! the class's cells come before the model's: the first constructor makes 240 of them -/
def zc240 : Bool := match zr1 with
  | some (none, M) => decide (M.1.1 = 240)
  | _ => false
set_option maxRecDepth 1000000 in
theorem zc240_ok : zc240 = true := by decide +kernel
theorem zB_240 : zB.1.1 = 240 := by
  have h := zc240_ok
  unfold zc240 at h
  rw [zex1.1] at h
  exact of_decide_eq_true h
