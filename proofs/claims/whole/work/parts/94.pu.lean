/-! PURE, 45: the class's splitting -/
def kd (c : Int32) : Int32 := if isLe c = true then 0 else if isDi c = true then 1 else -1
theorem pc_kind (c : Int32) (u : zU) : f_X8_kindOf c u = kd c := by
  rw [f_X8_kindOf_e]
  unfold kd isLe isDi
  by_cases h1 : c < 97
  · rw [if_pos h1, decide_eq_false (Int32.not_le.mpr h1), Bool.false_and, if_neg Bool.false_ne_true]
    by_cases h2 : c < 48
    · rw [if_pos h2, decide_eq_false (Int32.not_le.mpr h2), Bool.false_and, if_neg Bool.false_ne_true]
    · rw [if_neg h2, decide_eq_true (Int32.not_lt.mp h2), Bool.true_and]
      by_cases h3 : (57 : Int32) < c
      · rw [if_pos h3, decide_eq_false (Int32.not_le.mpr h3), if_neg Bool.false_ne_true]
      · rw [if_neg h3, decide_eq_true (Int32.not_lt.mp h3), if_pos rfl]
  · rw [if_neg h1, decide_eq_true (Int32.not_lt.mp h1), Bool.true_and]
    by_cases h4 : (122 : Int32) < c
    · have h2 : ¬ c < 48 := by lia
      have h3 : (57 : Int32) < c := by lia
      rw [if_pos h4, if_neg h2, if_pos h3, decide_eq_false (Int32.not_le.mpr h4), if_neg Bool.false_ne_true, decide_eq_false (Int32.not_le.mpr h3), Bool.and_false, if_neg Bool.false_ne_true]
    · rw [if_neg h4, decide_eq_true (Int32.not_lt.mp h4), if_pos rfl]
/-- a thing told -/
def emi (u : zU) (i : Nat) (b e : Nat) : zU := z_up (z_up (z_up u 4 i (nI b)) 5 i (nI e)) 3 3 (nI (i + 1))
/-- where the run of things of b's kind ends -/
def rke (t : Nat → Int32) (k : Int32) : Nat → Nat → Nat
  | 0, p => p
  | d + 1, p => if k < 0 then p else if kd (t p) = k then rke t k d (p + 1) else p
theorem pc_emi {u : zU} {t : Nat → Int32} {n b x i : Nat} (K : Int32 → Int32 → zU → Option zU) (ht : ∀ k, k < 400 → u 2 k = t k) (hb : b < 400) (hi : u 3 3 = nI i) (hi4 : i < 401) : (if z_in (nI b) 400 = true then (z_let (u 2 (nI b).toNatClampNeg) (fun z9 => if z9 = (32 : Int32) then (K (nI n) (nI x) u) else (if z_in (u 3 3) 401 = true then (z_let (z_up u 4 (u 3 3).toNatClampNeg (nI b)) (fun u10 => if z_in (u10 3 3) 401 = true then (z_let (z_up u10 5 (u10 3 3).toNatClampNeg (nI x)) (fun u11 => z_let (z_up u11 3 3 ((u11 3 3) + (1 : Int32))) (fun u12 => K (nI n) (nI x) u12))) else none)) else none))) else none) = K (nI n) (nI x) (if t b = 32 then u else emi u i b x) := by
  have e4 : (z_up u 4 i (nI b)) 3 3 = nI i := hi
  have e5 : (z_up (z_up u 4 i (nI b)) 5 i (nI x)) 3 3 = nI i := hi
  rw [if_pos (pu_in hb (by decide)), zl, nI_clamp (by omega), ht b hb, hi, if_pos (pu_in hi4 (by decide)), zl, nI_clamp (by omega), e4, if_pos (pu_in hi4 (by decide)), zl, nI_clamp (by omega), e5, zl, nI_1]
  by_cases h : t b = 32
  · rw [if_pos h, if_pos h]
  · rw [if_neg h, if_neg h]; rfl
theorem pc_sp49 {u : zU} {t : Nat → Int32} {n b i : Nat} (K : Int32 → Int32 → zU → Option zU) (ht : ∀ k, k < 400 → u 2 k = t k) (hn : n ≤ 400) (hb : b < 400) (hi : u 3 3 = nI i) (hi4 : i < 401) (k : Int32) : ∀ d x fuel, x + d = n → d < fuel → f_X8_split_49 K fuel (nI n) (nI x) (nI b) k u = K (nI n) (nI (rke t k d x)) (if t b = 32 then u else emi u i b (rke t k d x)) := by
  intro d
  induction d with
  | zero =>
    intro x fuel hx hf
    obtain ⟨m, rfl⟩ : ∃ m, fuel = m + 1 := ⟨fuel - 1, by omega⟩
    obtain rfl : x = n := by omega
    rw [f_X8_split_49_s, if_pos (nI_le (Nat.le_refl _) (by omega))]
    exact pc_emi K ht hb hi hi4
  | succ d ih =>
    intro x fuel hx hf
    obtain ⟨m, rfl⟩ : ∃ m, fuel = m + 1 := ⟨fuel - 1, by omega⟩
    have hx4 : x < 400 := by omega
    have e := pc_emi (n := n) (x := x) K ht hb hi hi4
    rw [f_X8_split_49_s, if_neg (nI_ge (show x < n by omega) (by omega)), e]
    show _ = K (nI n) (nI (if k < 0 then x else if kd (t x) = k then rke t k d (x + 1) else x)) (if t b = 32 then u else emi u i b (if k < 0 then x else if kd (t x) = k then rke t k d (x + 1) else x))
    by_cases h0 : k < 0
    · rw [if_pos h0, if_pos h0]
    · rw [if_neg h0, if_neg h0, if_pos (pu_in hx4 (by decide)), zl, nI_clamp (by omega), ht x hx4, pc_kind, zl, nI_1]
      by_cases h1 : kd (t x) = k
      · rw [if_pos h1, if_pos h1]
        exact ih (x + 1) m (by omega) (by omega)
      · rw [if_neg h1, if_neg h1]
