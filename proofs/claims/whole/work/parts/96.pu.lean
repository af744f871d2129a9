/-! PURE, 47: the class's splitting told -/
theorem pc_split {u : zU} {t : Nat → Int32} {n : Nat} (hn : n ≤ 400) (h1 : u 1 1 = nI n) (ht : ∀ k, k < 400 → u 2 k = t k) : ∃ u', f_X8_split u = some u' ∧ (∀ r, r ≠ 3 → r ≠ 4 → r ≠ 5 → u' r = u r) ∧ (∀ j, j < 3 → u' 3 j = u 3 j) ∧ u' 3 3 = nI (spT t n n 0).length ∧ u' 3 4 = nI 0 ∧ u' 3 5 = -1 ∧ (spT t n n 0).length ≤ 400 ∧ ∀ j, j ≤ (spT t n n 0).length → u' 4 j = nI ((spT t n n 0).getD j (n, n)).1 ∧ u' 5 j = nI ((spT t n n 0).getD j (n, n)).2 := by
  obtain ⟨u', y1, y2, y3, y4, y5, -, y7⟩ := pc_sp25 (t := t) hn n 0 5000 (z_up (z_up (z_up u 3 3 0) 3 4 0) 3 5 (-1)) 0 (by omega) (by omega) (Nat.zero_le _) (by omega) ht rfl
  rw [Nat.zero_add] at y4 y5
  refine ⟨u', ?_, ?_, ?_, y4, y3 4 (by decide), y3 5 (by decide), y5, fun j hj => ?_⟩
  · have e : (z_up (z_up (z_up u 3 3 0) 3 4 0) 3 5 (-1)) 1 1 = nI n := h1
    rw [f_X8_split_e, zl, zl, zl, e, zl]
    exact y1
  · intro r r3 r4 r5
    rw [y2 r r3 r4 r5, z_up_ne r3, z_up_ne r3, z_up_ne r3]
  · intro j hj
    rw [y3 j (by omega), z_up_eq, upd_ne (by omega), z_up_eq, upd_ne (by omega), z_up_eq, upd_ne (by omega)]
  · have := y7 j hj
    rw [Nat.zero_add] at this
    exact this
