/-! PURE, 42: texts and their things -/
/-- the first of p, p+1 .. (d of them) that is no blank; p + d -/
def skp (t : Nat → Int32) : Nat → Nat → Nat
  | 0, p => p
  | d + 1, p => if t p = 32 then skp t d (p + 1) else p
theorem skp_le (t : Nat → Int32) : ∀ d p, p ≤ skp t d p ∧ skp t d p ≤ p + d
  | 0, p => ⟨Nat.le_refl _, Nat.le_refl _⟩
  | d + 1, p => by
    show p ≤ (if t p = 32 then skp t d (p + 1) else p) ∧ (if t p = 32 then skp t d (p + 1) else p) ≤ p + (d + 1)
    have := skp_le t d (p + 1)
    split <;> omega
/-- the reference reads the text t of n letters -/
def TXr (u : zU) (t : Nat → Int32) (n : Nat) : Prop := n ≤ 400 ∧ u 0 10 = nI n ∧ ∀ (u' : zU) k, k < n → (∀ r, r ≠ 0 → u' r = u r) → u' 0 9 = u 0 9 → f_X11_letter (nI k) u' = some (t k)
theorem TXr.up {u : zU} {t : Nat → Int32} {n : Nat} (h : TXr u t n) {j : Nat} (y : Int32) (hj : j ≠ 9 ∧ j ≠ 10) : TXr (z_up u 0 j y) t n := by
  obtain ⟨h1, h2, h3⟩ := h
  refine ⟨h1, ?_, fun u' k hk e1 e2 => h3 u' k hk (fun r hr => (e1 r hr).trans (z_up_ne hr)) ?_⟩
  · rw [z_up_eq, upd_ne (fun e => hj.2 e.symm)]; exact h2
  · rw [e2, z_up_eq, upd_ne (fun e => hj.1 e.symm)]
theorem TXr.at {u : zU} {t : Nat → Int32} {n k : Nat} (h : TXr u t n) (hk : k < n) : f_X11_letter (nI k) u = some (t k) := h.2.2 u k hk (fun _ _ => rfl) rfl
theorem zup2 (u : zU) (r j : Nat) (x y : Int32) : z_up (z_up u r j x) r j y = z_up u r j y := by
  funext a
  by_cases e : a = r
  · subst e
    rw [z_up_eq, z_up_eq, z_up_eq]
    funext b
    by_cases e2 : b = j
    · rw [e2, upd_eq, upd_eq]
    · rw [upd_ne e2, upd_ne e2, upd_ne e2]
  · rw [z_up_ne e, z_up_ne e, z_up_ne e]
theorem zup1 (u : zU) (r j : Nat) (x : Int32) (h : u r j = x) : z_up u r j x = u := by
  funext a
  by_cases e : a = r
  · subst e
    rw [z_up_eq]
    funext b
    by_cases e2 : b = j
    · rw [e2, upd_eq, h]
    · rw [upd_ne e2]
  · rw [z_up_ne e]
theorem pr_skip {t : Nat → Int32} {n : Nat} : ∀ d p fuel u, TXr u t n → p + d = n → d < fuel → u 0 11 = nI p → f_X11_skip_0 fuel u = some (z_up u 0 11 (nI (skp t d p))) := by
  intro d
  induction d with
  | zero =>
    intro p fuel u hX hp hf h11
    obtain ⟨m, rfl⟩ : ∃ m, fuel = m + 1 := ⟨fuel - 1, by omega⟩
    obtain rfl : p = n := by omega
    have hn := hX.1
    rw [f_X11_skip_0_s, hX.2.1, h11, if_pos (nI_le (Nat.le_refl _) (by omega))]
    show some u = some (z_up u 0 11 (nI p))
    rw [zup1 u 0 11 _ h11]
  | succ d ih =>
    intro p fuel u hX hp hf h11
    obtain ⟨m, rfl⟩ : ∃ m, fuel = m + 1 := ⟨fuel - 1, by omega⟩
    have hn := hX.1
    rw [f_X11_skip_0_s, hX.2.1, h11, if_neg (nI_ge (by omega) (by omega)), hX.at (by omega), Option.bind_some, nI_1]
    show _ = some (z_up u 0 11 (nI (if t p = 32 then skp t d (p + 1) else p)))
    by_cases h : t p = 32
    · rw [if_pos h, if_pos h, zl, ih (p + 1) m (z_up u 0 11 (nI (p + 1))) (hX.up _ (by decide)) (by omega) (by omega) (by rw [z_up_eq, upd_eq]), zup2]
    · rw [if_neg h, if_neg h, zup1 u 0 11 _ h11]
theorem pr_skipE {u : zU} {t : Nat → Int32} {n p : Nat} (hX : TXr u t n) (hp : p ≤ n) (h11 : u 0 11 = nI p) : f_X11_skip u = some (z_up u 0 11 (nI (skp t (n - p) p))) := by
  have hn := hX.1
  rw [f_X11_skip_e]
  exact pr_skip (n - p) p 5000 u hX (by omega) (by omega) h11
theorem pr_place {u : zU} {t : Nat → Int32} {n p : Nat} (hX : TXr u t n) (hp : p ≤ n) (h11 : u 0 11 = nI p) : f_X11_place u = some (nI (skp t (n - p) p), z_up u 0 11 (nI (skp t (n - p) p))) := by
  rw [f_X11_place_e, pr_skipE hX hp h11, Option.bind_some, z_up_eq, upd_eq]
theorem pr_sign {u : zU} {t : Nat → Int32} {n p : Nat} (hX : TXr u t n) (hp : p ≤ n) (h11 : u 0 11 = nI p) (a : Int32) : f_X11_isSign a u = some (decide (skp t (n - p) p < n ∧ t (skp t (n - p) p) = a), z_up u 0 11 (nI (skp t (n - p) p))) := by
  have hn := hX.1
  have hs := skp_le t (n - p) p
  have hX2 := hX.up (j := 11) (nI (skp t (n - p) p)) (by decide)
  rw [f_X11_isSign_e, pr_skipE hX hp h11, Option.bind_some, hX2.2.1, z_up_eq, upd_eq]
  by_cases h : skp t (n - p) p < n
  · rw [if_neg (nI_ge h (by omega)), hX2.at h, Option.bind_some]
    by_cases h2 : t (skp t (n - p) p) = a
    · rw [if_pos h2, decide_eq_true ⟨h, h2⟩]
    · rw [if_neg h2, decide_eq_false (fun e => h2 e.2)]
  · rw [if_pos (nI_le (by omega) (by omega)), decide_eq_false (fun e => h e.1)]
/-- the end of the run of P from p on, d at most -/
def run (P : Int32 → Bool) (t : Nat → Int32) : Nat → Nat → Nat
  | 0, p => p
  | d + 1, p => if P (t p) = true then run P t d (p + 1) else p
theorem run_le (P : Int32 → Bool) (t : Nat → Int32) : ∀ d p, p ≤ run P t d p ∧ run P t d p ≤ p + d
  | 0, p => ⟨Nat.le_refl _, Nat.le_refl _⟩
  | d + 1, p => by
    show p ≤ (if P (t p) = true then run P t d (p + 1) else p) ∧ (if P (t p) = true then run P t d (p + 1) else p) ≤ p + (d + 1)
    have := run_le P t d (p + 1)
    split <;> omega
def isLe (c : Int32) : Bool := decide ((97 : Int32) ≤ c) && decide (c ≤ 122)
def isDi (c : Int32) : Bool := decide ((48 : Int32) ≤ c) && decide (c ≤ 57)
/-- where the thing that begins at p (< n) ends -/
def tke (t : Nat → Int32) (n p : Nat) : Nat := if isLe (t p) = true then run isLe t (n - p) p else if isDi (t p) = true then run isDi t (n - p) p else p + 1
/-- the things of a text: begin and end of the i-th behind the place p -/
def tkb (t : Nat → Int32) (n : Nat) : Nat → Nat → Nat
  | 0, p => skp t (n - p) p
  | i + 1, p => let b := skp t (n - p) p; if b < n then tkb t n i (tke t n b) else n
