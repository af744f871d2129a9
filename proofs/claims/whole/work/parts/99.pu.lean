/-! PURE, 50: signs at things -/
theorem ren_m {t : Nat → Int32} {n p : Nat} (h : kd (t p) = -1) : ren t n p = p + 1 := by
  unfold ren
  rw [h]
  cases n - (p + 1) with
  | zero => rfl
  | succ d => exact if_pos (by decide)
theorem tk_sign {t : Nat → Int32} {n b a : Nat} (h1 : sLen.getD a 0 = 1) (hs : kd (sCh a 0) = -1) : tkB t b (ren t n b) a = decide (t b = sCh a 0) := by
  have e : wdB t b a = decide (t b = sCh a 0) := by
    unfold wdB
    rw [h1]
    show (decide (t (b + 0) = sCh a 0) && true) = _
    rw [Bool.and_true, Nat.add_zero]
  unfold tkB
  rw [e, h1]
  by_cases h : t b = sCh a 0
  · rw [decide_eq_true h, Bool.and_true, ren_m (by rw [h]; exact hs)]
    exact decide_eq_true (by omega)
  · rw [decide_eq_false h, Bool.and_false]
theorem tk_end {t : Nat → Int32} {n a : Nat} (h0 : 0 < sLen.getD a 0) : tkB t n n a = false := by
  unfold tkB
  rw [decide_eq_false (by omega), Bool.false_and]
