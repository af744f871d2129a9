/-! PURE, 59: the worth of a law's nodes -/
def opv (κ a b : Int32) : Int32 := if κ = 2 then a + b else if κ = 3 then (if b ≤ a then 0 else 1) else if κ = 4 then (if a ≤ b then 0 else 1) else if κ = 5 then 1 - a else if κ = 6 then a &&& b else a ||| b
def chd (α : Int32) (i : Nat) (R : Nat → Int32) : Int32 := if α < 0 then 0 else if nI i ≤ α then 0 else R α.toNatClampNeg
def wvN (κ α β : Int32) (F : Nat → Int32) (i : Nat) (R : Nat → Int32) : Int32 := if κ = 0 then α else if κ = 1 then (if α < 0 then 0 else if 9 ≤ α then 0 else F α.toNatClampNeg) else opv κ (chd α i R) (chd β i R)
theorem lfG (z a b : Int32) : (if z = (2 : Int32) then (some (a + b)) else (if z = (3 : Int32) then (if b ≤ a then (some (0 : Int32)) else (some (1 : Int32))) else (if z = (4 : Int32) then (if a ≤ b then (some (0 : Int32)) else (some (1 : Int32))) else (if z = (5 : Int32) then (some ((1 : Int32) - a)) else (if z = (6 : Int32) then (some (a &&& b)) else (some (a ||| b))))))) = some (opv z a b) := by
  unfold opv
  by_cases h2 : z = 2
  · rw [if_pos h2, if_pos h2]
  · rw [if_neg h2, if_neg h2]
    by_cases h3 : z = 3
    · rw [if_pos h3, if_pos h3]; split <;> rfl
    · rw [if_neg h3, if_neg h3]
      by_cases h4 : z = 4
      · rw [if_pos h4, if_pos h4]; split <;> rfl
      · rw [if_neg h4, if_neg h4]
        by_cases h5 : z = 5
        · rw [if_pos h5, if_pos h5]
        · rw [if_neg h5, if_neg h5]
          by_cases h6 : z = 6
          · rw [if_pos h6, if_pos h6]
          · rw [if_neg h6, if_neg h6]
theorem lf00 (z : Int32) : (if z = (2 : Int32) then (some ((0 : Int32) + (0 : Int32))) else (if z = (3 : Int32) then (some (0 : Int32)) else (if z = (4 : Int32) then (some (0 : Int32)) else (if z = (5 : Int32) then (some ((1 : Int32) - (0 : Int32))) else (if z = (6 : Int32) then (some ((0 : Int32) &&& (0 : Int32))) else (some ((0 : Int32) ||| (0 : Int32)))))))) = some (opv z 0 0) := by
  rw [← lfG z 0 0, if_pos (show (0 : Int32) ≤ 0 by decide)]
theorem pu_inI {x : Int32} {N : Nat} {i : Nat} (h0 : ¬ x < 0) (hi : ¬ nI i ≤ x) (hN : i ≤ N) (h31 : N < 2 ^ 31) : z_in x N = true ∧ ∃ a, a < i ∧ x = nI a := by
  obtain ⟨j, j1, rfl⟩ := nI_of h0
  have hj : j < i := Classical.byContradiction (fun hc => hi (nI_le (by omega) j1))
  exact ⟨pu_in (by omega) h31, j, hj, rfl⟩
theorem pc_worth {L : Nat → Nat} {u : zU} {fa i : Nat} (hi : i < L 9) (h9 : L 9 ≤ 400) : f_X4_worth L fa (nI i) u = some (wvN (u (L 4) i) (u (L 5) i) (u (L 6) i) (u fa) i (u (L 7))) := by
  have hin : z_in (nI i) (L 9) = true := pu_in hi (by omega)
  simp only [f_X4_worth_e, hin, if_true, zl, nI_clamp (show i < 2 ^ 31 by omega)]
  unfold wvN
  generalize u (L 4) i = κ
  generalize u (L 5) i = α
  generalize u (L 6) i = β
  by_cases h0 : κ = 0
  · rw [if_pos h0, if_pos h0]
  · rw [if_neg h0, if_neg h0]
    by_cases h1 : κ = 1
    · rw [if_pos h1, if_pos h1]
      by_cases a0 : α < 0
      · rw [if_pos a0, if_pos a0]
      · rw [if_neg a0, if_neg a0]
        by_cases a9 : (9 : Int32) ≤ α
        · rw [if_pos a9, if_pos a9]
        · rw [if_neg a9, if_neg a9, if_pos (pu_inI (i := 9) (N := 9) a0 a9 (Nat.le_refl _) (by decide)).1]
    · rw [if_neg h1, if_neg h1]
      unfold chd
      by_cases a0 : α < 0
      · rw [if_pos a0, if_pos a0]
        by_cases b0 : β < 0
        · rw [if_pos b0, if_pos b0, lf00]
        · rw [if_neg b0, if_neg b0]
          by_cases b1 : nI i ≤ β
          · rw [if_pos b1, if_pos b1, lf00]
          · rw [if_neg b1, if_neg b1, if_pos (pu_inI b0 b1 (by omega) (by omega)).1, lfG]
      · rw [if_neg a0, if_neg a0]
        by_cases a1 : nI i ≤ α
        · rw [if_pos a1, if_pos a1]
          by_cases b0 : β < 0
          · rw [if_pos b0, if_pos b0, lf00]
          · rw [if_neg b0, if_neg b0]
            by_cases b1 : nI i ≤ β
            · rw [if_pos b1, if_pos b1, lf00]
            · rw [if_neg b1, if_neg b1, if_pos (pu_inI b0 b1 (by omega) (by omega)).1, lfG]
        · rw [if_neg a1, if_neg a1, if_pos (pu_inI a0 a1 (by omega) (by omega)).1]
          by_cases b0 : β < 0
          · rw [if_pos b0, if_pos b0, lfG]
          · rw [if_neg b0, if_neg b0]
            by_cases b1 : nI i ≤ β
            · rw [if_pos b1, if_pos b1, lfG]
            · rw [if_neg b1, if_neg b1, if_pos (pu_inI b0 b1 (by omega) (by omega)).1, lfG]
/-- the results of d nodes from n0 on, over R -/
def rs (K A B F : Nat → Int32) (n0 : Nat) (R : Nat → Int32) : Nat → Nat → Int32
  | 0 => R
  | d + 1 => upd (rs K A B F n0 R d) (n0 + d) (wvN (K (n0 + d)) (A (n0 + d)) (B (n0 + d)) F (n0 + d) (rs K A B F n0 R d))
/-- the worth of the node x, of nodes from n0 up to k -/
def EV (K A B F : Nat → Int32) (n0 k x : Nat) : Int32 := rs K A B F n0 (fun _ => 0) (k - n0) x
/-- a node is made of those from n0 on, ahead of it -/
def NV (κ α β : Int32) (n0 i : Nat) : Prop := κ = 0 ∨ κ = 1 ∨ ((∃ a, n0 ≤ a ∧ a < i ∧ α = nI a) ∧ (β = -1 ∨ ∃ b, n0 ≤ b ∧ b < i ∧ β = nI b))
theorem chd_in {a i : Nat} (h : a < i) (hi : i < 2 ^ 31) (R : Nat → Int32) : chd (nI a) i R = R a := by
  unfold chd
  rw [if_neg (nI_pos (by omega)), if_neg (nI_ge h hi), nI_clamp (by omega)]
theorem chd_m (i : Nat) (R : Nat → Int32) : chd (-1) i R = 0 := if_pos (by decide)
theorem wvN_ext {κ α β : Int32} {F F' : Nat → Int32} {n0 i : Nat} {R R' : Nat → Int32} (hi : i < 2 ^ 31) (h : NV κ α β n0 i) (hF : ∀ j, j < 9 → F j = F' j) (hR : ∀ j, n0 ≤ j → j < i → R j = R' j) : wvN κ α β F i R = wvN κ α β F' i R' := by
  unfold wvN
  by_cases h0 : κ = 0
  · rw [if_pos h0, if_pos h0]
  · rw [if_neg h0, if_neg h0]
    by_cases h1 : κ = 1
    · rw [if_pos h1, if_pos h1]
      by_cases a0 : α < 0
      · rw [if_pos a0, if_pos a0]
      · rw [if_neg a0, if_neg a0]
        by_cases a9 : (9 : Int32) ≤ α
        · rw [if_pos a9, if_pos a9]
        · rw [if_neg a9, if_neg a9]
          obtain ⟨-, a, a1, rfl⟩ := pu_inI (i := 9) (N := 9) a0 a9 (Nat.le_refl _) (by decide)
          rw [nI_clamp (by omega)]
          exact hF a a1
    · rw [if_neg h1, if_neg h1]
      rcases h with h | h | ⟨⟨a, a1, a2, rfl⟩, h⟩
      · exact absurd h h0
      · exact absurd h h1
      · rw [chd_in a2 hi, chd_in a2 hi, hR a a1 a2]
        rcases h with rfl | ⟨b, b1, b2, rfl⟩
        · rw [chd_m, chd_m]
        · rw [chd_in b2 hi, chd_in b2 hi, hR b b1 b2]
theorem rs_ext {K A B F K' A' B' F' : Nat → Int32} {n0 : Nat} {R R' : Nat → Int32} (hF : ∀ j, j < 9 → F j = F' j) : ∀ d, n0 + d < 2 ^ 31 → (∀ i, n0 ≤ i → i < n0 + d → NV (K i) (A i) (B i) n0 i ∧ K i = K' i ∧ A i = A' i ∧ B i = B' i) → ∀ j, n0 ≤ j → j < n0 + d → rs K A B F n0 R d j = rs K' A' B' F' n0 R' d j
  | 0, _, _, j, h1, h2 => by omega
  | d + 1, hd, h, j, h1, h2 => by
    have ih := rs_ext hF d (by omega) (fun i a b => h i a (by omega)) (R := R) (R' := R')
    obtain ⟨e1, e2, e3, e4⟩ := h (n0 + d) (by omega) (by omega)
    show upd (rs K A B F n0 R d) (n0 + d) _ j = upd (rs K' A' B' F' n0 R' d) (n0 + d) _ j
    by_cases e : j = n0 + d
    · subst e
      rw [upd_eq, upd_eq, ← e2, ← e3, ← e4]
      exact wvN_ext (by omega) e1 hF ih
    · rw [upd_ne e, upd_ne e]
      exact ih j h1 (by omega)
theorem rs_mono {K A B F : Nat → Int32} {n0 : Nat} {R : Nat → Int32} {j : Nat} : ∀ d d', d ≤ d' → j < n0 + d → rs K A B F n0 R d' j = rs K A B F n0 R d j := by
  intro d d' h hj
  induction d' with
  | zero => rw [show d = 0 by omega]
  | succ d' ih =>
    by_cases e : d = d' + 1
    · rw [e]
    · show upd (rs K A B F n0 R d') (n0 + d') _ j = _
      rw [upd_ne (by omega)]
      exact ih (by omega)
/-- nodes that come behind don't matter -/
theorem EV_ext {K A B F K' A' B' F' : Nat → Int32} {n0 k k' x : Nat} (hF : ∀ j, j < 9 → F j = F' j) (hk : k' < 2 ^ 31) (hkk : k ≤ k') (h : ∀ i, n0 ≤ i → i < k → NV (K i) (A i) (B i) n0 i ∧ K i = K' i ∧ A i = A' i ∧ B i = B' i) (hx : n0 ≤ x) (hxk : x < k) : EV K A B F n0 k x = EV K' A' B' F' n0 k' x := by
  unfold EV
  rw [rs_mono (K := K') (k - n0) (k' - n0) (by omega) (by omega)]
  exact rs_ext hF (k - n0) (by omega) (fun i a b => h i a (by omega)) x hx (by omega)
/-- a node more -/
theorem EV_new {K A B F : Nat → Int32} {n0 k : Nat} (h : n0 ≤ k) : EV K A B F n0 (k + 1) k = wvN (K k) (A k) (B k) F k (EV K A B F n0 k) := by
  show rs K A B F n0 (fun _ => 0) (k + 1 - n0) k = wvN (K k) (A k) (B k) F k (rs K A B F n0 (fun _ => 0) (k - n0))
  rw [show k + 1 - n0 = (k - n0) + 1 by omega]
  show upd _ (n0 + (k - n0)) _ k = _
  rw [show n0 + (k - n0) = k by omega, upd_eq]
/-- the class's telling of a line's nodes -/
theorem pc_holds6 {L : Nat → Nat} {fa n0 k : Nat} {F : Nat → Int32} (h9 : L 9 ≤ 400) (hk : k ≤ L 9) (hfa : fa ≠ L 7) (h4 : L 4 ≠ L 7) (h5 : L 5 ≠ L 7) (h6 : L 6 ≠ L 7) {u0 : zU} : ∀ d j fuel u (x : Int32), j + d = k → n0 ≤ j → d < fuel → (∀ r, r ≠ L 7 → u r = u0 r) → (x = 0 ∨ x = 1) → ∃ u', f_X4_holds_6 L fa fuel (nI k) x (nI j) u = some ((if d = 0 then decide (x = 1) else decide (u' (L 7) (k - 1) ≠ 0)), u') ∧ (∀ r, r ≠ L 7 → u' r = u0 r) ∧ (∀ R, u (L 7) = rs (u0 (L 4)) (u0 (L 5)) (u0 (L 6)) (u0 fa) n0 R (j - n0) → u' (L 7) = rs (u0 (L 4)) (u0 (L 5)) (u0 (L 6)) (u0 fa) n0 R (k - n0)) := by
  intro d
  induction d with
  | zero =>
    intro j fuel u x hj hn hf hu hx
    obtain ⟨m, rfl⟩ : ∃ m, fuel = m + 1 := ⟨fuel - 1, by omega⟩
    obtain rfl : j = k := by omega
    refine ⟨u, ?_, hu, fun R h => h⟩
    rw [f_X4_holds_6_s, if_pos (nI_le (Nat.le_refl _) (by omega)), if_pos rfl]
    rcases hx with rfl | rfl
    · rfl
    · rfl
  | succ d ih =>
    intro j fuel u x hj hn hf hu hx
    obtain ⟨m, rfl⟩ : ∃ m, fuel = m + 1 := ⟨fuel - 1, by omega⟩
    have hin : z_in (nI j) (L 9) = true := pu_in (by omega) (by omega)
    rw [f_X4_holds_6_s, if_neg (nI_ge (show j < k by omega) (by omega)), if_neg (nI_ge (show j < L 9 by omega) (by omega)), pc_worth (by omega) h9, Option.bind_some, if_pos hin, zl, if_pos hin, zl, nI_clamp (by omega), zupe, nI_1]
    rw [hu _ h4, hu _ h5, hu _ h6, hu _ hfa]
    generalize hw : wvN (u0 (L 4) j) (u0 (L 5) j) (u0 (L 6) j) (u0 fa) j (u (L 7)) = w
    have hu1 : ∀ r, r ≠ L 7 → (z_up u (L 7) j w) r = u0 r := fun r hr => by rw [z_up_ne hr]; exact hu r hr
    have hr1 : ∀ R, u (L 7) = rs (u0 (L 4)) (u0 (L 5)) (u0 (L 6)) (u0 fa) n0 R (j - n0) → (z_up u (L 7) j w) (L 7) = rs (u0 (L 4)) (u0 (L 5)) (u0 (L 6)) (u0 fa) n0 R (j + 1 - n0) := fun R hR => by
      rw [show j + 1 - n0 = (j - n0) + 1 by omega, z_up_eq]
      show _ = upd (rs _ _ _ _ n0 R (j - n0)) (n0 + (j - n0)) _
      rw [show n0 + (j - n0) = j by omega, ← hR, ← hw]
    have key : ∀ x' : Int32, (x' = 0 ∨ x' = 1) → decide (x' = 1) = decide (w ≠ 0) → ∃ u', f_X4_holds_6 L fa m (nI k) x' (nI (j + 1)) (z_up u (L 7) j w) = some ((if d + 1 = 0 then decide (x = 1) else decide (u' (L 7) (k - 1) ≠ 0)), u') ∧ (∀ r, r ≠ L 7 → u' r = u0 r) ∧ (∀ R, u (L 7) = rs (u0 (L 4)) (u0 (L 5)) (u0 (L 6)) (u0 fa) n0 R (j - n0) → u' (L 7) = rs (u0 (L 4)) (u0 (L 5)) (u0 (L 6)) (u0 fa) n0 R (k - n0)) := fun x' hx' hxw => by
      obtain ⟨u', e1, e2, e3⟩ := ih (j + 1) m (z_up u (L 7) j w) x' (by omega) (by omega) (by omega) hu1 hx'
      refine ⟨u', ?_, e2, fun R hR => e3 R (hr1 R hR)⟩
      rw [e1, if_neg (show ¬ d + 1 = 0 by omega)]
      by_cases hd : d = 0
      · rw [if_pos hd, hxw]
        subst hd
        obtain rfl : j + 1 = k := by omega
        obtain ⟨m2, rfl⟩ : ∃ m2, m = m2 + 1 := ⟨m - 1, by omega⟩
        rw [f_X4_holds_6_s, if_pos (nI_le (Nat.le_refl _) (by omega))] at e1
        have e5 : z_up u (L 7) j w = u' := by
          rcases hx' with rfl | rfl
          · have e1 : some (false, z_up u (L 7) j w) = some (_, u') := e1
            injection e1 with e1
            injection e1
          · have e1 : some (true, z_up u (L 7) j w) = some (_, u') := e1
            injection e1 with e1
            injection e1
        rw [← e5, show j + 1 - 1 = j by omega, zupe]
      · rw [if_neg hd]
    by_cases hw0 : w = 0
    · rw [if_pos hw0]
      exact key 0 (Or.inl rfl) (by rw [hw0]; rfl)
    · rw [if_neg hw0]
      exact key 1 (Or.inr rfl) (by rw [decide_eq_true hw0]; rfl)
/-- a line's condition, told by the class -/
theorem pc_holds {L : Nat → Nat} {fa n0 k : Nat} {u : zU} (h9 : L 9 ≤ 400) (hk : k ≤ L 9) (hn : n0 < k) (hfa : fa ≠ L 7) (h4 : L 4 ≠ L 7) (h5 : L 5 ≠ L 7) (h6 : L 6 ≠ L 7) (hv : ∀ i, n0 ≤ i → i < k → NV (u (L 4) i) (u (L 5) i) (u (L 6) i) n0 i) : ∃ u', f_X4_holds L fa (nI n0) (nI k) u = some (decide (EV (u (L 4)) (u (L 5)) (u (L 6)) (u fa) n0 k (k - 1) ≠ 0), u') ∧ ∀ r, r ≠ L 7 → u' r = u r := by
  obtain ⟨u', e1, e2, e3⟩ := pc_holds6 (n0 := n0) (F := u fa) h9 hk hfa h4 h5 h6 (u0 := u) (k - n0) n0 5000 u 0 (by omega) (Nat.le_refl _) (by omega) (fun _ _ => rfl) (Or.inl rfl)
  refine ⟨u', ?_, e2⟩
  rw [f_X4_holds_e, e1, if_neg (show ¬ k - n0 = 0 by omega)]
  have e4 := e3 (u (L 7)) (by rw [Nat.sub_self]; rfl)
  unfold EV
  rw [e4, rs_ext (R' := fun _ => 0) (fun _ _ => rfl) (k - n0) (by omega) (fun i a b => ⟨hv i a (by omega), rfl, rfl, rfl⟩) (k - 1) (by omega) (by omega)]
