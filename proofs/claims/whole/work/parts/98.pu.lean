/-! PURE, 49: words at things -/
theorem kd_0 (c : Int32) : kd c = 0 ↔ isLe c = true := by
  unfold kd
  by_cases h : isLe c = true
  · rw [if_pos h]; exact ⟨fun _ => h, fun _ => rfl⟩
  · rw [if_neg h]
    constructor
    · intro e
      split at e
      · exact absurd e (by decide)
      · exact absurd e (by decide)
    · intro e; exact absurd e h
theorem rke_run (t : Nat → Int32) : ∀ d p, rke t 0 d p = run isLe t d p
  | 0, p => rfl
  | d + 1, p => by
    show (if (0 : Int32) < 0 then p else if kd (t p) = 0 then rke t 0 d (p + 1) else p) = if isLe (t p) = true then run isLe t d (p + 1) else p
    rw [if_neg (by decide), rke_run t d (p + 1)]
    by_cases h : isLe (t p) = true
    · rw [if_pos h, if_pos ((kd_0 _).mpr h)]
    · rw [if_neg h, if_neg (fun e => h ((kd_0 _).mp e))]
theorem ren_le2 {t : Nat → Int32} {n b : Nat} (hb : b < n) (h : isLe (t b) = true) : ren t n b = run isLe t (n - b) b := by
  unfold ren
  rw [(kd_0 _).mpr h, rke_run, show n - b = (n - (b + 1)) + 1 by omega]
  exact (if_pos h).symm
/-- a word of letters stands at a thing for the class as for the reference -/
theorem tk_has {t : Nat → Int32} {n b a : Nat} (hb : b < n) (h0 : 0 < sLen.getD a 0) (hw : isLe (sCh a 0) = true) : tkB t b (ren t n b) a = hasB t n b a := by
  by_cases h : isLe (t b) = true
  · unfold tkB hasB
    rw [ren_le2 hb h]
  · have e1 : wdB t b a = false := by
      unfold wdB
      obtain ⟨m, hm⟩ : ∃ m, sLen.getD a 0 = m + 1 := ⟨sLen.getD a 0 - 1, by omega⟩
      rw [hm]
      show (decide (t (b + 0) = sCh a 0) && _) = false
      rw [decide_eq_false (fun e => h (by rw [Nat.add_zero] at e; rw [e]; exact hw)), Bool.false_and]
    unfold tkB hasB
    rw [e1, Bool.and_false, Bool.and_false]
