/-! PURE, 43: words -/
/-- whether the word a stands at b -/
def wdB (t : Nat → Int32) (b a : Nat) : Bool := bal (fun k => decide (t (b + k) = sCh a k)) (sLen.getD a 0) 0
def hasB (t : Nat → Int32) (n b a : Nat) : Bool := decide (run isLe t (n - b) b - b = sLen.getD a 0) && wdB t b a
theorem nI_sb {a b : Nat} (h : b ≤ a) : nI a - nI b = nI (a - b) := by
  rw [show nI a = nI (a - b) + nI b by rw [nI_add]; congr 1; omega]
  lia
theorem pr_has55 {t : Nat → Int32} {n b e a : Nat} (hl : sLen.getD a 0 ≤ 400) : ∀ d k fuel u, TXr u t n → u 0 11 = nI b → b + sLen.getD a 0 = e → e ≤ n → k + d = sLen.getD a 0 → d < fuel → f_X11_has_55 a fuel (nI e) (nI k) u = (if bal (fun k => decide (t (b + k) = sCh a k)) d k = true then some (true, z_up u 0 11 (nI e)) else some (false, u)) := by
  intro d
  induction d with
  | zero =>
    intro k fuel u hX h11 hb he hk hf
    obtain ⟨m, rfl⟩ : ∃ m, fuel = m + 1 := ⟨fuel - 1, by omega⟩
    rw [f_X11_has_55_s, if_pos (nI_le (show sLen.getD a 0 ≤ k by omega) (by omega)), zl]
    rfl
  | succ d ih =>
    intro k fuel u hX h11 hb he hk hf
    obtain ⟨m, rfl⟩ : ∃ m, fuel = m + 1 := ⟨fuel - 1, by omega⟩
    have hn := hX.1
    have hk2 : k < sLen.getD a 0 := by omega
    rw [f_X11_has_55_s, if_neg (nI_ge hk2 (by omega)), h11, nI_add, hX.at (show b + k < n by omega), Option.bind_some, if_pos (pu_in hk2 (by omega)), nI_clamp (by omega), nI_1]
    show _ = if (decide (t (b + k) = sCh a k) && bal (fun k => decide (t (b + k) = sCh a k)) d (k + 1)) = true then _ else _
    by_cases h : t (b + k) = sCh a k
    · rw [if_pos h, decide_eq_true h, Bool.true_and]
      exact ih (k + 1) m u hX h11 hb he (by omega) (by omega)
    · rw [if_neg h, decide_eq_false h, Bool.false_and, if_neg Bool.false_ne_true]
theorem pr_has9 {t : Nat → Int32} {n b a : Nat} (hl : sLen.getD a 0 ≤ 400) {u : zU} (hX : TXr u t n) (h11 : u 0 11 = nI b) : ∀ d x fuel, x + d = n → b ≤ x → d < fuel → f_X11_has_9 a fuel (nI x) u = (if (decide (run isLe t d x - b = sLen.getD a 0) && wdB t b a) = true then some (true, z_up u 0 11 (nI (run isLe t d x))) else some (false, u)) := by
  have hn := hX.1
  have hfin : ∀ x, b ≤ x → x ≤ n → (if nI x - nI b = nI (sLen.getD a 0) then f_X11_has_55 a 5000 (nI x) 0 u else some (false, u)) = (if (decide (x - b = sLen.getD a 0) && wdB t b a) = true then some (true, z_up u 0 11 (nI x)) else some (false, u)) := by
    intro x hbx hxn
    rw [nI_sb hbx]
    by_cases h : x - b = sLen.getD a 0
    · rw [if_pos (by rw [h]), decide_eq_true h, Bool.true_and]
      exact pr_has55 hl (sLen.getD a 0) 0 5000 u hX h11 (by omega) hxn (by omega) (by omega)
    · rw [if_neg (fun e => h ((nI_eq (by omega) (by omega)).mp e)), decide_eq_false h, Bool.false_and, if_neg Bool.false_ne_true]
  intro d
  induction d with
  | zero =>
    intro x fuel hx hbx hf
    obtain ⟨m, rfl⟩ : ∃ m, fuel = m + 1 := ⟨fuel - 1, by omega⟩
    obtain rfl : x = n := by omega
    rw [f_X11_has_9_s, hX.2.1, if_pos (nI_le (Nat.le_refl _) (by omega)), h11]
    exact hfin x hbx (Nat.le_refl _)
  | succ d ih =>
    intro x fuel hx hbx hf
    obtain ⟨m, rfl⟩ : ∃ m, fuel = m + 1 := ⟨fuel - 1, by omega⟩
    rw [f_X11_has_9_s, hX.2.1, if_neg (nI_ge (show x < n by omega) (by omega)), hX.at (by omega), Option.bind_some, pr_isIn, zl, nI_1, h11]
    show (if isLe (t x) = true then _ else _) = if (decide ((if isLe (t x) = true then run isLe t d (x + 1) else x) - b = sLen.getD a 0) && wdB t b a) = true then some (true, z_up u 0 11 (nI (if isLe (t x) = true then run isLe t d (x + 1) else x))) else some (false, u)
    by_cases h : isLe (t x) = true
    · rw [if_pos h, if_pos h]
      exact ih (x + 1) m (by omega) (by omega) (by omega)
    · rw [if_neg h, if_neg h]
      exact hfin x hbx (by omega)
theorem pr_has {t : Nat → Int32} {n p a : Nat} (hl : sLen.getD a 0 ≤ 400) {u : zU} (hX : TXr u t n) (hp : p ≤ n) (h11 : u 0 11 = nI p) : f_X11_has a u = some (hasB t n (skp t (n - p) p) a, z_up u 0 11 (nI (if hasB t n (skp t (n - p) p) a = true then run isLe t (n - skp t (n - p) p) (skp t (n - p) p) else skp t (n - p) p))) := by
  have hn := hX.1
  have hs := skp_le t (n - p) p
  rw [f_X11_has_e, pr_skipE hX hp h11, Option.bind_some, zl, z_up_eq, upd_eq]
  generalize skp t (n - p) p = b at hs ⊢
  have h2 := pr_has9 (a := a) hl (hX.up (j := 11) (nI b) (by decide)) (b := b) (by rw [z_up_eq, upd_eq]) (n - b) b 5000 (by omega) (Nat.le_refl _) (by omega)
  rw [h2, zup2]
  show (if hasB t n b a = true then _ else _) = _
  cases hasB t n b a with
  | true => rw [if_pos rfl, if_pos rfl]
  | false => rw [if_neg Bool.false_ne_true, if_neg Bool.false_ne_true]
