/-! PURE, 5: places, heights, facts, draws -/
def pls (v : Nat → Int32) (c : Nat) : Nat := (c + 8 - tP v) % 8
def hgt (p : Nat) : Nat := if p ≤ 4 then 4 - p else p - 4
theorem pls0 : ∀ c, c < 8 → ∀ t, t < 8 → (nI c - nI t) &&& 7 = nI ((c + 8 - t) % 8) ∧ z_rem ((nI c - nI t) + 8) 8 = nI ((c + 8 - t) % 8) := by decide +kernel
theorem hgt0 : ∀ p, p < 8 → z_abs (4 - nI p) = nI (hgt p) ∧ (4 : Int32) - (if (8 : Int32) - nI p ≤ nI p then (8 : Int32) - nI p else nI p) = nI (hgt p) := by decide +kernel
theorem pls_lt (v : Nat → Int32) (c : Nat) : pls v c < 8 := Nat.mod_lt _ (by decide)
theorem pc_places {u : zU} {w : Nat} {v : Nat → Int32} (hR : RW u w v) (hV : IV v) (L : Nat → Nat) {c : Nat} (hc : c < 8) : f_X9_places w L (nI c) u = nI (pls v c) := by
  rw [f_X9_places_e, hR.s14, hV.t]; exact (pls0 c hc _ hV.t8).1
theorem pr_places {u : zU} (hV : IV (u 1)) {c : Nat} (hc : c < 8) : f_X11_placesOf (nI c) u = nI (pls (u 1) c) := by
  rw [f_X11_placesOf_e, hV.t]; exact (pls0 c hc _ hV.t8).2
theorem pc_height {u : zU} {w : Nat} {v : Nat → Int32} (hR : RW u w v) (hV : IV v) (L : Nat → Nat) {c : Nat} (hc : c < 8) : f_X9_height w L (nI c) u = nI (hgt (pls v c)) := by
  rw [f_X9_height_e, pc_places hR hV L hc]; exact (hgt0 _ (pls_lt v c)).1
theorem pr_height {u : zU} (hV : IV (u 1)) {c : Nat} (hc : c < 8) : f_X11_heightOf (nI c) u = nI (hgt (pls (u 1) c)) := by
  rw [f_X11_heightOf_e, pr_places hV hc]; simp only [z_let, f_X11_lesser_e]; exact (hgt0 _ (pls_lt _ c)).2
theorem pc_cost {u : zU} {w : Nat} {v : Nat → Int32} (hR : RW u w v) (hV : IV v) (L : Nat → Nat) {c : Nat} (hc : c < 8) : f_X9_costOf w L (nI c) u = nI (10 * pls v c) := by
  rw [f_X9_costOf_e, pc_places hR hV L hc]; simp only [z_let]; rw [pu_lit 10, pu_mul]
theorem pr_cost {u : zU} (hV : IV (u 1)) {c : Nat} (hc : c < 8) : f_X11_costOf (nI c) u = nI (10 * pls (u 1) c) := by
  rw [f_X11_costOf_e, pr_places hV hc]; simp only [z_let]; rw [pu_lit 10, pu_mul]
theorem pr_waits {u : zU} {x : Nat} (hx : x < 8) : f_X11_waits (nI x) u = some (decide (u 1 (25 + 4 * x) = -1)) := by
  rw [f_X11_waits_e, pr_of0 hx]
  simp only [Option.bind_some]
  split <;> simp [*]
/-- what the law may ask of the rider x, who sits in c -/
def sFa (v : Nat → Int32) (x c : Nat) : Nat → Int32 := fun j => [nI c, v (26 + 4 * x), v (28 + 4 * x), v (17 + c), v 9, nI (hgt (pls v c)), v 6 / 100, if v (27 + 4 * x) < 50 then 0 else 1, if bcnt (Pin v (nI c)) (rN v) = 1 then 1 else 0].getD j 0
theorem alone0 : ∀ m, m < 256 → ∀ x, x < 8 → m.testBit x = true → (decide (nI m = (1 : Int32) <<< (nI x &&& 31))) = decide (bcnt (fun r => m.testBit r) 8 = 1) := by decide +kernel
theorem alone {P : Nat → Bool} {N x : Nat} (hN : N ≤ 8) (hx : x < N) (hP : P x = true) : (nI (bset P N) = (1 : Int32) <<< (nI x &&& 31)) ↔ bcnt P N = 1 := by
  have h := alone0 (bset P N) (bset256 hN) x (by omega) (by rw [bset_bit]; simp [hx, hP])
  rw [bcnt_bset P N 8 hN] at h
  exact decide_eq_decide.mp h
theorem pc_tellFacts {u : zU} {w : Nat} {v : Nat → Int32} (hR : RW u w v) (hV : IV v) (L : Nat → Nat) {x c : Nat} (hx : x < rN v) (hc : c < 8) (hp : v (25 + 4 * x) = nI c) : ∃ u', f_X9_tellFacts w L (nI x) u = some u' ∧ (∀ j, j < 9 → u' (w + 8) j = sFa v x c j) ∧ ∀ r, r ≠ w + 8 → u' r = u r := by
  have h8 := hV.n8
  have hx8 : x < 8 := by omega
  have ho : ∀ (u1 : zU), (∀ r, r ≠ w + 8 → u1 r = u r) → RW u1 w v := fun u1 h => hR.fr (fun r h1 h2 => h r (by omega))
  rw [f_X9_tellFacts_e, pu_and7 x hx8]
  simp only [z_let]
  rw [if_pos (pu_in hx8 (by decide)), nI_clamp (show x < 2 ^ 31 by omega), hR.pl hx8, hp, pu_and7 c hc]
  rw [if_pos (pu_in hx8 (by decide)), if_pos (pu_in hx8 (by decide)), if_pos (pu_in hc (by decide)), if_pos (pu_in hx8 (by decide)), nI_clamp (show c < 2 ^ 31 by omega)]
  simp only [z_up_ne (show w + 2 ≠ w + 8 by omega), z_up_ne (show w + 4 ≠ w + 8 by omega), z_up_ne (show w + 6 ≠ w + 8 by omega), z_up_ne (show w + 3 ≠ w + 8 by omega), z_up_ne (show w ≠ w + 8 by omega), hR.we hx8, hR.si hx8, hR.bo hc, hR.pu hx8, hR.s15, hR.s11]
  have hw : ∀ (u1 : zU) (k : Nat) (y : Int32), (∀ r, r ≠ w + 8 → u1 r = u r) → ∀ r, r ≠ w + 8 → z_up u1 (w + 8) k y r = u r := fun u1 k y h r hr => by rw [z_up_ne hr]; exact h r hr
  have h5 := hw _ 4 (v 9) (hw _ 3 (v (17 + c)) (hw _ 2 (v (28 + 4 * x)) (hw _ 1 (v (26 + 4 * x)) (hw _ 0 (nI c) (fun r _ => rfl)))))
  rw [pc_height (ho _ h5) hV L hc]
  have h7 := hw _ 6 (v 6 / 100) (hw _ 5 (nI (hgt (pls v c))) h5)
  have hal := alone (P := Pin v (nI c)) h8 hx (decide_eq_true hp)
  have hlk : ∀ j, j < 9 → ∀ a b : Int32, a = (if v (27 + 4 * x) < 50 then 0 else 1) → b = (if bcnt (Pin v (nI c)) (rN v) = 1 then 1 else 0) → z_up (z_up (z_up (z_up (z_up (z_up (z_up (z_up (z_up u (w + 8) 0 (nI c)) (w + 8) 1 (v (26 + 4 * x))) (w + 8) 2 (v (28 + 4 * x))) (w + 8) 3 (v (17 + c))) (w + 8) 4 (v 9)) (w + 8) 5 (nI (hgt (pls v c)))) (w + 8) 6 (v 6 / 100)) (w + 8) 7 a) (w + 8) 8 b (w + 8) j = sFa v x c j := by
    intro j hj a b ha hb
    rw [sFa, ← ha, ← hb]
    simp only [z_up_eq]
    match j, hj with
    | 0, _ => rfl
    | 1, _ => rfl
    | 2, _ => rfl
    | 3, _ => rfl
    | 4, _ => rfl
    | 5, _ => rfl
    | 6, _ => rfl
    | 7, _ => rfl
    | 8, _ => rfl
  by_cases h50 : v (27 + 4 * x) < 50
  · rw [if_pos h50, pc_ridersIn (ho _ (hw _ 7 0 h7)) hV]
    simp only [Option.bind_some]
    by_cases h1 : bcnt (Pin v (nI c)) (rN v) = 1
    · rw [if_pos (hal.mpr h1)]
      exact ⟨_, rfl, fun j hj => hlk j hj 0 1 (by rw [if_pos h50]) (by rw [if_pos h1]), hw _ 8 _ (hw _ 7 0 h7)⟩
    · rw [if_neg (fun e => h1 (hal.mp e))]
      exact ⟨_, rfl, fun j hj => hlk j hj 0 0 (by rw [if_pos h50]) (by rw [if_neg h1]), hw _ 8 _ (hw _ 7 0 h7)⟩
  · rw [if_neg h50, pc_ridersIn (ho _ (hw _ 7 1 h7)) hV]
    simp only [Option.bind_some]
    by_cases h1 : bcnt (Pin v (nI c)) (rN v) = 1
    · rw [if_pos (hal.mpr h1)]
      exact ⟨_, rfl, fun j hj => hlk j hj 1 1 (by rw [if_neg h50]) (by rw [if_pos h1]), hw _ 8 _ (hw _ 7 1 h7)⟩
    · rw [if_neg (fun e => h1 (hal.mp e))]
      exact ⟨_, rfl, fun j hj => hlk j hj 1 0 (by rw [if_neg h50]) (by rw [if_neg h1]), hw _ 8 _ (hw _ 7 1 h7)⟩
/-! the law's meaning: T what (facts; none: of nobody) -/
abbrev zT : Type := Nat → Option (Nat → Int32) → Int32
/-- what the telling of a law's sum leaves: all but its results, and its rows -/
def CLk (L : Nat → Nat) (u u' : zU) : Prop := (∀ r, r ≠ L 7 → u' r = u r) ∧ ∀ j, 0 < j → j < 7 → u' (L j) = u (L j)
/-- the class's law at L means T -/
def CL (u : zU) (L : Nat → Nat) (T : zT) : Prop := ∀ (u2 : zU) (fa : Nat) (F : Nat → Int32) (wh : Nat), (∀ j, 0 < j → j < 7 → u2 (L j) = u (L j)) → fa ≠ L 7 → (∀ j, j < 9 → u2 fa j = F j) → wh < 3 →
  (∃ u3, f_X4_total L fa (nI wh) true u2 = some (T wh (some F), u3) ∧ CLk L u2 u3) ∧ ∃ u3, f_X4_total L fa (nI wh) false u2 = some (T wh none, u3) ∧ CLk L u2 u3
def FO (u : zU) : Option (Nat → Int32) → Prop
  | none => u 0 17 = 1
  | some F => (u 0 17 = 0 ∧ (F 7 = 0 ∨ F 7 = 1) ∧ (F 8 = 0 ∨ F 8 = 1)) ∧ (∀ j, j < 7 → u 6 j = F j) ∧ u 0 15 = F 7 ∧ u 0 16 = F 8
/-- the reference's text in v means T -/
def RLw (v : Nat → Int32) (T : zT) : Prop := (v 1 < 1 ∧ ∀ wh o, T wh o = 0) ∨ (1 ≤ v 1 ∧ ∀ (u : zU) (o : Option (Nat → Int32)), u 1 2 = v 2 → (∀ k, 305 ≤ k → k < 705 → u 1 k = v k) → u 0 9 = 305 → u 0 10 = v 2 → u 0 11 = 0 → u 0 12 = -1 → u 0 13 = 0 → FO u o →
  ∃ n u', f_X11_read true u = some (n, u') ∧ (∀ r, r ≠ 0 → u' r = u r) ∧ (∀ j, j ≠ 11 → j ≠ 12 → j ≠ 13 → j ≠ 18 → j ≠ 19 → u' 0 j = u 0 j) ∧ u' 0 18 = u 0 18 + T 0 o ∧ u' 0 19 = u 0 19 + T 1 o - T 2 o)
theorem CL.fr {u u' : zU} {L : Nat → Nat} {T : zT} (h : CL u L T) (hf : ∀ j, 0 < j → j < 7 → u' (L j) = u (L j)) : CL u' L T :=
  fun u2 fa F wh h1 h2 h3 h4 => h u2 fa F wh (fun j a b => (h1 j a b).trans (hf j a b)) h2 h3 h4
theorem RLw.ex {v v' : Nat → Int32} {T : zT} (h : RLw v T) (h1 : v' 1 = v 1) (h2 : v' 2 = v 2) (h3 : ∀ k, 305 ≤ k → k < 705 → v' k = v k) : RLw v' T := by
  rcases h with ⟨a, b⟩ | ⟨a, b⟩
  · exact Or.inl ⟨by rw [h1]; exact a, b⟩
  · refine Or.inr ⟨by rw [h1]; exact a, fun u o e1 e2 e3 e4 => b u o (e1.trans h2) (fun k k1 k2 => (e2 k k1 k2).trans (h3 k k1 k2)) e3 (e4.trans h2)⟩
