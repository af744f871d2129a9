/-! PURE, 46: the class's splitting, whole -/
theorem rke_le (t : Nat → Int32) (k : Int32) : ∀ d p, p ≤ rke t k d p ∧ rke t k d p ≤ p + d
  | 0, p => ⟨Nat.le_refl _, Nat.le_refl _⟩
  | d + 1, p => by
    have := rke_le t k d (p + 1)
    show p ≤ (if k < 0 then p else if kd (t p) = k then rke t k d (p + 1) else p) ∧ (if k < 0 then p else if kd (t p) = k then rke t k d (p + 1) else p) ≤ p + (d + 1)
    split
    · omega
    · split <;> omega
def ren (t : Nat → Int32) (n p : Nat) : Nat := rke t (kd (t p)) (n - (p + 1)) (p + 1)
/-- the things of the text behind p -/
def spT (t : Nat → Int32) (n : Nat) : Nat → Nat → List (Nat × Nat)
  | 0, _ => []
  | f + 1, p => if p < n then (if t p = 32 then spT t n f (ren t n p) else (p, ren t n p) :: spT t n f (ren t n p)) else []
theorem pc_sp25 {t : Nat → Int32} {n : Nat} (hn : n ≤ 400) : ∀ f p fuel u i, n - p ≤ f → n - p < fuel → p ≤ n → i + (n - p) ≤ 400 → (∀ k, k < 400 → u 2 k = t k) → u 3 3 = nI i → ∃ u', f_X8_split_25 fuel (nI n) (nI p) u = some u' ∧ (∀ r, r ≠ 3 → r ≠ 4 → r ≠ 5 → u' r = u r) ∧ (∀ j, j ≠ 3 → u' 3 j = u 3 j) ∧ u' 3 3 = nI (i + (spT t n f p).length) ∧ i + (spT t n f p).length ≤ 400 ∧ (∀ j, j < i → u' 4 j = u 4 j ∧ u' 5 j = u 5 j) ∧ ∀ j, j ≤ (spT t n f p).length → u' 4 (i + j) = nI ((spT t n f p).getD j (n, n)).1 ∧ u' 5 (i + j) = nI ((spT t n f p).getD j (n, n)).2 := by
  have hend : ∀ fuel u i, 0 < fuel → i ≤ 400 → u 3 3 = nI i → ∃ u', f_X8_split_25 fuel (nI n) (nI n) u = some u' ∧ (∀ r, r ≠ 3 → r ≠ 4 → r ≠ 5 → u' r = u r) ∧ (∀ j, j ≠ 3 → u' 3 j = u 3 j) ∧ u' 3 3 = nI (i + 0) ∧ i + 0 ≤ 400 ∧ (∀ j, j < i → u' 4 j = u 4 j ∧ u' 5 j = u 5 j) ∧ ∀ j, j ≤ 0 → u' 4 (i + j) = nI n ∧ u' 5 (i + j) = nI n := by
    intro fuel u i hf hi h3
    obtain ⟨m, rfl⟩ : ∃ m, fuel = m + 1 := ⟨fuel - 1, by omega⟩
    have e4 : (z_up u 4 i (nI n)) 3 3 = nI i := h3
    refine ⟨z_up (z_up u 4 i (nI n)) 5 i (nI n), ?_, ?_, ?_, h3, by omega, ?_, ?_⟩
    · rw [f_X8_split_25_s, if_pos (nI_le (Nat.le_refl _) (by omega)), h3, if_pos (pu_in (show i < 401 by omega) (by decide)), zl, nI_clamp (by omega), e4, if_pos (pu_in (show i < 401 by omega) (by decide)), zl, nI_clamp (by omega)]
    · intro r r3 r4 r5; rw [z_up_ne r5, z_up_ne r4]
    · intro j _; rfl
    · intro j hj
      refine ⟨?_, ?_⟩
      · rw [z_up_ne (by decide), z_up_eq, upd_ne (by omega)]
      · rw [z_up_eq, upd_ne (by omega), z_up_ne (by decide)]
    · intro j hj
      obtain rfl : j = 0 := by omega
      refine ⟨?_, ?_⟩
      · rw [z_up_ne (by decide), z_up_eq]; exact upd_eq
      · rw [z_up_eq]; exact upd_eq
  intro f
  induction f with
  | zero =>
    intro p fuel u i hf1 hf2 hp hi ht h3
    obtain rfl : p = n := by omega
    exact hend fuel u i (by omega) (by omega) h3
  | succ f ih =>
    intro p fuel u i hf1 hf2 hp hi ht h3
    by_cases hpn : p < n
    · obtain ⟨m, rfl⟩ : ∃ m, fuel = m + 1 := ⟨fuel - 1, by omega⟩
      have hr := rke_le t (kd (t p)) (n - (p + 1)) (p + 1)
      have h49 := pc_sp49 (u := u) (t := t) (n := n) (b := p) (i := i) (fun k1 k2 u => f_X8_split_25 m k1 k2 u) ht hn (by omega) h3 (by omega) (kd (t p)) (n - (p + 1)) (p + 1) 5000 (by omega) (by omega)
      have hstep : f_X8_split_25 (m + 1) (nI n) (nI p) u = f_X8_split_25 m (nI n) (nI (ren t n p)) (if t p = 32 then u else emi u i p (ren t n p)) := by
        rw [f_X8_split_25_s, if_neg (nI_ge hpn (by omega)), if_pos (pu_in (show p < 400 by omega) (by decide)), zl, nI_clamp (by omega), ht p (by omega), pc_kind, zl, nI_1]
        exact h49
      have hren : p + 1 ≤ ren t n p ∧ ren t n p ≤ n := by unfold ren; omega
      rw [hstep]
      have e : spT t n (f + 1) p = (if t p = 32 then spT t n f (ren t n p) else (p, ren t n p) :: spT t n f (ren t n p)) := if_pos hpn
      rw [e]
      by_cases h32 : t p = 32
      · rw [if_pos h32, if_pos h32]
        exact ih (ren t n p) m u i (by omega) (by omega) hren.2 (by omega) ht h3
      · rw [if_neg h32, if_neg h32]
        have h3' : (emi u i p (ren t n p)) 3 3 = nI (i + 1) := rfl
        obtain ⟨u', y1, y2, y3, y4, y5, y6, y7⟩ := ih (ren t n p) m (emi u i p (ren t n p)) (i + 1) (by omega) (by omega) hren.2 (by omega) ht h3'
        refine ⟨u', y1, ?_, ?_, ?_, ?_, ?_, ?_⟩
        · intro r r3 r4 r5
          rw [y2 r r3 r4 r5]
          unfold emi
          rw [z_up_ne r3, z_up_ne r5, z_up_ne r4]
        · intro j hj
          rw [y3 j hj]
          unfold emi
          rw [z_up_eq, upd_ne hj]
          rfl
        · rw [y4, List.length_cons]; congr 1; omega
        · rw [List.length_cons]; omega
        · intro j hj
          have := y6 j (by omega)
          unfold emi at this
          rw [z_up_ne (by decide), z_up_ne (by decide), z_up_eq, upd_ne (by omega), z_up_ne (by decide), z_up_eq, upd_ne (by omega), z_up_ne (by decide)] at this
          exact this
        · intro j hj
          cases j with
          | zero =>
            have := y6 i (by omega)
            unfold emi at this
            rw [z_up_ne (by decide), z_up_ne (by decide), z_up_eq, upd_eq, z_up_ne (by decide), z_up_eq, upd_eq] at this
            exact this
          | succ j =>
            rw [List.length_cons] at hj
            have := y7 j (by omega)
            rw [show i + 1 + j = i + (j + 1) by omega] at this
            exact this
    · obtain rfl : p = n := by omega
      have e : spT t p (f + 1) p = [] := if_neg hpn
      rw [e]
      exact hend fuel u i (by omega) (by omega) h3
