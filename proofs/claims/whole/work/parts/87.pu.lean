/-! PURE, 38: moves, the tape heard -/
def okM (v : Nat → Int32) (i : Nat) : Bool := decide ((1 : Int32) ≤ v i) && decide (v i ≤ 30)
theorem p_tape {q : zq} {u r : zU} {n : Nat} (hn : n ≤ 400) (hu : u 1 1 = nI n) (hb : ∀ k, k < 400 → u 2 k = r 5 k) : ∀ d i f1 f2 (b : Bool), i + d = n → d < f1 → d < f2 → ∃ b2, (b = false → b2 = false) ∧ f_X10_needMoves_20 q f1 (bI b) (nI i) u = tEnd q b2 u ∧ f_X11_heard_24 f2 (nI n) (bI b) (nI i) r = (if b2 = true then f_X11_heard_63 5000 (nI n) 0 0 r else some (-1, r)) := by
  intro d
  induction d with
  | zero =>
    intro i f1 f2 b hi hf1 hf2
    obtain ⟨m, rfl⟩ : ∃ m, f1 = m + 1 := ⟨f1 - 1, by omega⟩
    obtain ⟨k, rfl⟩ : ∃ k, f2 = k + 1 := ⟨f2 - 1, by omega⟩
    obtain rfl : i = n := by omega
    refine ⟨b, fun e => e, ?_, ?_⟩
    · rw [f_X10_needMoves_20_s, hu, if_pos (nI_le (Nat.le_refl i) (by omega)), tEnd0]
      split <;> rfl
    · rw [f_X11_heard_24_s, if_pos (nI_le (Nat.le_refl i) (by omega))]
      cases b with
      | false => rw [if_pos (show bI false = 0 from rfl), if_neg Bool.false_ne_true]
      | true => rw [if_neg (show ¬ bI true = 0 by decide), if_pos rfl]
  | succ d ih =>
    intro i f1 f2 b hi hf1 hf2
    obtain ⟨m, rfl⟩ : ∃ m, f1 = m + 1 := ⟨f1 - 1, by omega⟩
    obtain ⟨k, rfl⟩ : ∃ k, f2 = k + 1 := ⟨f2 - 1, by omega⟩
    have hnle : ¬ nI n ≤ nI i := nI_ge (by omega) (by omega)
    cases b with
    | false =>
      refine ⟨false, fun e => e, ?_, ?_⟩
      · rw [f_X10_needMoves_20_s, if_pos (show bI false = 0 from rfl), tEnd0]
      · rw [f_X11_heard_24_s, if_neg hnle, if_pos (show bI false = 0 from rfl), if_pos (show bI false = 0 from rfl), if_neg Bool.false_ne_true]
    | true =>
      have hi400 : i < 400 := by omega
      obtain ⟨b2, -, y1, y2⟩ := ih (i + 1) m k (okM (r 5) i) (by omega) (by omega) (by omega)
      refine ⟨b2, fun e => absurd e (by decide), ?_, ?_⟩
      · rw [f_X10_needMoves_20_s, if_neg (show ¬ bI true = 0 by decide), hu, if_neg hnle, if_pos (pu_in hi400 (by decide)), zl, if_pos (pu_in hi400 (by decide)), zl, nI_clamp (by omega), hb i hi400, nI_1, ← y1]
        unfold okM
        by_cases h1 : r 5 i < 1
        · rw [if_pos h1, decide_eq_false (Int32.not_le.mpr h1)]; rfl
        · rw [if_neg h1, decide_eq_true (Int32.not_lt.mp h1)]
          by_cases h2 : (30 : Int32) < r 5 i
          · rw [if_pos h2, decide_eq_false (Int32.not_le.mpr h2)]; rfl
          · rw [if_neg h2, decide_eq_true (Int32.not_lt.mp h2)]; rfl
      · rw [f_X11_heard_24_s, if_neg hnle, if_neg (show ¬ bI true = 0 by decide), if_pos (pu_in hi400 (by decide)), zl, nI_clamp (by omega), pr_isIn, zl, nI_1, ← y2]
        rfl
def cB1 (v : Nat → Int32) (j k : Nat) : Bool := decide (nI (j % 10 + 1) ≤ v k) && decide (v k ≤ nI (j % 10 + j / 10 + 1))
def cBe (v : Nat → Int32) (n j : Nat) : Bool := bal (cB1 v j) n 0
theorem dm10 : ∀ j, j < 80 → z_rem (nI j) 10 = nI (j % 10) ∧ nI j / 10 = nI (j / 10) := by decide +kernel
theorem pr_canBe {j : Nat} (hj : j < 80) (y : Int32) (u : zU) : f_X11_canBe (nI j) y u = (decide (nI (j % 10 + 1) ≤ y) && decide (y ≤ nI (j % 10 + j / 10 + 1))) := by
  rw [f_X11_canBe_e, (dm10 j hj).1, (dm10 j hj).2, zl, pr_isIn, zl, nI_add, nI_1, nI_1]
def E9 (r r' : zU) : Prop := ∀ k, k ≠ 9 → r' k = r k
theorem E9.up {r r' : zU} (h : E9 r r') (j : Nat) (y : Int32) : E9 r (z_up r' 9 j y) := fun k hk => by rw [z_up_ne hk]; exact h k hk
theorem pr_h81 {r : zU} {n j : Nat} (hn : n ≤ 400) (hj : j < 80) (K : Int32 → Int32 → Int32 → zU → Option (Int32 × zU)) (x3 : Int32) : ∀ d i fuel u (acc : Bool), i + d = n → d < fuel → E9 r u → u 9 j = bI acc → ∃ u', f_X11_heard_81 K fuel (nI n) x3 (nI j) (nI i) u = K (nI n) (x3 + bI (acc && bal (cB1 (r 5) j) d i)) (nI (j + 1)) u' ∧ E9 r u' ∧ u' 9 j = bI (acc && bal (cB1 (r 5) j) d i) ∧ ∀ k, k ≠ j → u' 9 k = u 9 k := by
  have hj31 : j < 2 ^ 31 := by omega
  intro d
  induction d with
  | zero =>
    intro i fuel u acc hi hf hE h9
    obtain ⟨m, rfl⟩ : ∃ m, fuel = m + 1 := ⟨fuel - 1, by omega⟩
    obtain rfl : i = n := by omega
    rw [f_X11_heard_81_s, if_pos (nI_le (Nat.le_refl i) (by omega)), if_pos (pu_in hj (by decide)), zl, nI_clamp hj31, h9, nI_1, zl, zl]
    have e : (acc && bal (cB1 (r 5) j) 0 i) = acc := by cases acc <;> rfl
    rw [e]
    refine ⟨u, ?_, hE, h9, fun k _ => rfl⟩
    cases acc with
    | false => rw [if_pos (show bI false = 0 from rfl)]; rfl
    | true => rw [if_neg (show ¬ bI true = 0 by decide)]; rfl
  | succ d ih =>
    intro i fuel u acc hi hf hE h9
    obtain ⟨m, rfl⟩ : ∃ m, fuel = m + 1 := ⟨fuel - 1, by omega⟩
    have hi400 : i < 400 := by omega
    rw [f_X11_heard_81_s, if_neg (nI_ge (show i < n by omega) (by omega)), if_pos (pu_in hj (by decide)), zl, nI_clamp hj31, h9]
    cases acc with
    | false =>
      rw [if_pos (show bI false = 0 from rfl), if_pos (pu_in hj (by decide)), zl, if_pos (show bI false = 0 from rfl), zl, nI_1]
      exact ⟨u, rfl, hE, h9, fun k _ => rfl⟩
    | true =>
      rw [if_neg (show ¬ bI true = 0 by decide), if_pos (pu_in hi400 (by decide)), zl, nI_clamp (by omega), hE 5 (by decide), pr_canBe hj, zl, if_pos (pu_in hj (by decide)), zl, nI_1]
      obtain ⟨u', y1, y2, y3, y4⟩ := ih (i + 1) m (z_up u 9 j (bI (cB1 (r 5) j i))) (cB1 (r 5) j i) (by omega) (by omega) (hE.up _ _) (by rw [z_up_eq, upd_eq])
      refine ⟨u', y1, y2, y3, fun k hk => ?_⟩
      rw [y4 k hk, z_up_eq, upd_ne hk]
theorem pr_h63 {r : zU} {n : Nat} (hn : n ≤ 400) : ∀ d j fuel u, j + d = 80 → d < fuel → E9 r u → (∀ k, k < j → u 9 k = bI (cBe (r 5) n k)) → ∃ u', f_X11_heard_63 fuel (nI n) (nI (bcnt (cBe (r 5) n) j)) (nI j) u = some (nI (bcnt (cBe (r 5) n) 80), u') ∧ E9 r u' ∧ ∀ k, k < 80 → u' 9 k = bI (cBe (r 5) n k) := by
  intro d
  induction d with
  | zero =>
    intro j fuel u hj hf hE h9
    obtain ⟨m, rfl⟩ : ∃ m, fuel = m + 1 := ⟨fuel - 1, by omega⟩
    obtain rfl : j = 80 := by omega
    rw [f_X11_heard_63_s, if_pos (show (80 : Int32) ≤ nI 80 by decide)]
    exact ⟨u, rfl, hE, h9⟩
  | succ d ih =>
    intro j fuel u hj hf hE h9
    obtain ⟨m, rfl⟩ : ∃ m, fuel = m + 1 := ⟨fuel - 1, by omega⟩
    have hj80 : j < 80 := by omega
    obtain ⟨u1, y1, y2, y3, y4⟩ := pr_h81 (r := r) hn hj80 (fun k1 k3 k4 u => f_X11_heard_63 m k1 k3 k4 u) (nI (bcnt (cBe (r 5) n) j)) n 0 5000 (z_up u 9 j 1) true (by omega) (by omega) (hE.up _ _) (by rw [z_up_eq, upd_eq]; rfl)
    rw [Bool.true_and] at y1 y3
    have e : nI (bcnt (cBe (r 5) n) j) + bI (bal (cB1 (r 5) j) n 0) = nI (bcnt (cBe (r 5) n) (j + 1)) := by
      rw [bcnt_s]
      show _ + bI (cBe (r 5) n j) = _
      cases cBe (r 5) n j with
      | false => rw [if_neg Bool.false_ne_true]; exact Int32.add_zero _
      | true => rw [if_pos rfl, ← nI_1]; rfl
    rw [e] at y1
    obtain ⟨u2, z1, z2, z3⟩ := ih (j + 1) m u1 (by omega) (by omega) y2 (fun k hk => by
      by_cases ek : k = j
      · rw [ek]; exact y3
      · rw [y4 k ek, z_up_eq, upd_ne ek]; exact h9 k (by omega))
    refine ⟨u2, ?_, z2, z3⟩
    rw [f_X11_heard_63_s, if_neg (show ¬ (80 : Int32) ≤ nI j from nI_ge (b := 80) hj80 (by decide)), if_pos (pu_in hj80 (by decide)), zl, nI_clamp (by omega)]
    exact y1.trans z1
/-! the least and the greatest -/
def sLo (v : Nat → Int32) (n : Nat) : Int32 := zfo (fun k s => z_min s (v k)) n 31
def sHi (v : Nat → Int32) (n : Nat) : Int32 := zfo (fun k s => z_max s (v k)) n 0
theorem pc_least {u : zU} {v : Nat → Int32} {n : Nat} (hn : n ≤ 400) (hu : u 1 1 = nI n) (hb : ∀ k, k < 400 → u 2 k = v k) : f_X7_least 31 u = some (sLo v n) := by
  rw [f_X7_least_e]
  refine pu_loop (fun m s x => f_X7_least_4 m s x u) n _ some (fun m k s hk => ?_) (fun m s => ?_) 5000 (by omega)
  · show f_X7_least_4 (m + 1) s (nI k) u = _
    rw [f_X7_least_4_s, hu, if_neg (nI_ge hk (by omega)), if_pos (pu_in (show k < 400 by omega) (by decide)), zl, zl, nI_clamp (by omega), hb k (by omega), nI_1]
  · show f_X7_least_4 (m + 1) s (nI n) u = _
    rw [f_X7_least_4_s, hu, if_pos (nI_le (Nat.le_refl _) (by omega))]
theorem pc_great {u : zU} {v : Nat → Int32} {n : Nat} (hn : n ≤ 400) (hu : u 1 1 = nI n) (hb : ∀ k, k < 400 → u 2 k = v k) : f_X7_greatest u = some (sHi v n) := by
  rw [f_X7_greatest_e]
  refine pu_loop (fun m s x => f_X7_greatest_4 m s x u) n _ some (fun m k s hk => ?_) (fun m s => ?_) 5000 (by omega)
  · show f_X7_greatest_4 (m + 1) s (nI k) u = _
    rw [f_X7_greatest_4_s, hu, if_neg (nI_ge hk (by omega)), if_pos (pu_in (show k < 400 by omega) (by decide)), zl, zl, nI_clamp (by omega), hb k (by omega), nI_1]
  · show f_X7_greatest_4 (m + 1) s (nI n) u = _
    rw [f_X7_greatest_4_s, hu, if_pos (nI_le (Nat.le_refl _) (by omega))]
