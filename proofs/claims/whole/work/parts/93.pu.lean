/-! PURE, 44: words of the class -/
def tkB (t : Nat → Int32) (b e a : Nat) : Bool := decide (e - b = sLen.getD a 0) && wdB t b a
theorem pc_tk37 {t : Nat → Int32} {b a i : Nat} (hl : sLen.getD a 0 ≤ 400) {u : zU} (ht : ∀ k, k < 400 → u 2 k = t k) (hi : u 3 4 = nI i) : ∀ d k fuel (acc : Bool), (acc = true → b + sLen.getD a 0 ≤ 400) → k + d = sLen.getD a 0 → d < fuel → f_X8_takes_37 a fuel (nI b) (bI acc) (nI k) u = (if (acc && bal (fun k => decide (t (b + k) = sCh a k)) d k) = true then some (true, z_up u 3 4 (nI (i + 1))) else some (false, u)) := by
  intro d
  induction d with
  | zero =>
    intro k fuel acc hb hk hf
    obtain ⟨m, rfl⟩ : ∃ m, fuel = m + 1 := ⟨fuel - 1, by omega⟩
    rw [f_X8_takes_37_s, if_pos (nI_le (show sLen.getD a 0 ≤ k by omega) (by omega)), hi, nI_1]
    cases acc with
    | false => rw [if_pos (show bI false = 0 from rfl), if_pos (show bI false = 0 from rfl)]; rfl
    | true => rw [if_neg (show ¬ bI true = 0 by decide), if_neg (show ¬ bI true = 0 by decide), zl]; rfl
  | succ d ih =>
    intro k fuel acc hb hk hf
    obtain ⟨m, rfl⟩ : ∃ m, fuel = m + 1 := ⟨fuel - 1, by omega⟩
    have hk2 : k < sLen.getD a 0 := by omega
    rw [f_X8_takes_37_s]
    cases acc with
    | false => rw [if_pos (show bI false = 0 from rfl), if_pos (show bI false = 0 from rfl)]; rfl
    | true =>
      have hb2 := hb rfl
      have hbk : b + k < 400 := by omega
      rw [if_neg (show ¬ bI true = 0 by decide), if_neg (nI_ge hk2 (by omega)), nI_add, if_pos (pu_in hbk (by decide)), zl, nI_clamp (by omega), ht _ hbk, if_pos (pu_in hk2 (by omega)), nI_clamp (by omega), nI_1]
      show _ = if (true && (decide (t (b + k) = sCh a k) && bal (fun k => decide (t (b + k) = sCh a k)) d (k + 1))) = true then _ else _
      rw [Bool.true_and]
      by_cases h : t (b + k) = sCh a k
      · rw [if_pos h, decide_eq_true h]
        exact ih (k + 1) m true (fun _ => hb2) (by omega) (by omega)
      · rw [if_neg h, decide_eq_false h]
        exact ih (k + 1) m false (fun e => absurd e (by decide)) (by omega) (by omega)
theorem pc_takes {t : Nat → Int32} {b e a i : Nat} (hl : sLen.getD a 0 ≤ 400) {u : zU} (ht : ∀ k, k < 400 → u 2 k = t k) (hi : u 3 4 = nI i) (hi4 : i < 401) (h4 : u 4 i = nI b) (h5 : u 5 i = nI e) (hbe : b ≤ e) (he : e ≤ 400) : f_X8_takes a u = (if tkB t b e a = true then some (true, z_up u 3 4 (nI (i + 1))) else some (false, u)) := by
  rw [f_X8_takes_e, hi, if_pos (pu_in hi4 (by decide)), zl, if_pos (pu_in hi4 (by decide)), zl, nI_clamp (by omega), h4, h5, nI_sb hbe]
  unfold tkB wdB
  by_cases h : e - b = sLen.getD a 0
  · rw [if_pos (by rw [h]), decide_eq_true h]
    exact pc_tk37 hl ht hi (sLen.getD a 0) 0 5000 true (fun _ => by omega) (by omega) (by omega)
  · rw [if_neg (fun q => h ((nI_eq (by omega) (by omega)).mp q)), decide_eq_false h]
    exact pc_tk37 hl ht hi (sLen.getD a 0) 0 5000 false (fun e => absurd e (by decide)) (by omega) (by omega)
