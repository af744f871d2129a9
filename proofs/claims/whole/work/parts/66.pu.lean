/-! PURE, 17: log, led, count, and the words that throw -/
def fmC (a b : Int32) : Int32 := z_let (z_rem a b) (fun z1 => if 0 ≤ (a ^^^ b) then z1 else (if z1 = 0 then z1 else z1 + b))
theorem fmC0 : ∀ nx, nx < 60 → ∀ ago, ago < 60 → fmC ((nI nx - 1) - nI ago) 60 = nI ((nx + 59 - ago) % 60) := by decide +kernel
theorem pc_floorMod (a b : Int32) (hb : b ≠ 0) (u : zU) : f_J9_floorMod_7cf53 a b u = some (fmC a b) := by
  rw [f_J9_floorMod_7cf53_e, if_pos hb]
  unfold fmC
  rw [zl, zl]
  split
  · rfl
  · split <;> rfl
theorem pc_told {u : zU} {j k nx : Nat} {v : Nat → Int32} (hk : k ≤ 60) (hn : nx < 60) (h2 : u j 2 = nI k) (h1 : u j 1 = nI nx) (hv : ∀ ago col, ago < k → col < 4 → u (j + 1) ((nx + 59 - ago) % 60 * 4 + col) = v (65 + 4 * ago + col)) {ago col : Nat} (ha : ago < k) (hc : col < 4) : f_X2_told j (nI ago) (nI col) u = some (v (65 + 4 * ago + col)) := by
  have h60 : (nx + 59 - ago) % 60 < 60 := Nat.mod_lt _ (by decide)
  rw [f_X2_told_e, if_neg (nI_pos (by omega)), h2, if_neg (nI_ge ha (by omega)), if_neg (nI_pos (by omega)), if_pos (show nI col < (4 : Int32) from nI_lt (b := 4) hc (by decide)), h1, pc_floorMod _ _ (by decide), Option.bind_some, fmC0 nx hn ago (by omega)]
  rw [show nI ((nx + 59 - ago) % 60) * (4 : Int32) + nI col = nI ((nx + 59 - ago) % 60 * 4 + col) by rw [show (4 : Int32) = nI 4 from rfl, pu_mul, nI_add], if_pos (pu_in (by omega) (by decide)), zl, nI_clamp (by omega), hv ago col ha hc]
theorem pc_toldNo {u : zU} {j k : Nat} (hk : k ≤ 60) (h2 : u j 2 = nI k) {a : Int32} (c : Int32) (ha : a < 0 ∨ nI k ≤ a) : f_X2_told j a c u = some (-2) := by
  rw [f_X2_told_e]
  by_cases h : a < 0
  · rw [if_pos h]
  · rw [if_neg h, h2, if_pos (by rcases ha with q | q; exact absurd q h; exact q)]
theorem pr_logged {u : zU} {ago col : Nat} (ha : ago < 60) (hc : col < 4) : f_X11_logged (nI ago) (nI col) u = some (u 1 (65 + 4 * ago + col)) := by
  rw [f_X11_logged_e, show ((65 : Int32) + (4 : Int32) * nI ago) + nI col = nI (65 + 4 * ago + col) by rw [show (65 : Int32) = nI 65 from rfl, show (4 : Int32) = nI 4 from rfl, pu_mul, nI_add, nI_add], if_pos (pu_in (by omega) (by decide)), zl, nI_clamp (by omega)]
theorem t00 (r : zU) (x : Int32) : (z_up r 0 0 x) 0 0 = x := rfl
theorem t01 (r : zU) (x : Int32) : (z_up r 0 0 x) 1 = r 1 := rfl
theorem s_log {q : zq} {u r : zU} (h : RR q u r) (a c : Int32) : ∃ o x r', f_X10_log q a c u = some (o, q, u) ∧ f_X11_log a c r = some (x, r') ∧ RR q u r' ∧ ANS [("java/util/NoSuchElementException", 1)] o x (r' 0 0) := by
  obtain ⟨T, T', hb⟩ := id h
  obtain ⟨k, nx, k1, k2, k3, k4, k5, k6⟩ := hb.2.1
  rw [f_X10_log_e, f_X11_log_e, pr_isIn, zl]
  by_cases h0 : c < 0
  · rw [if_pos h0, decide_eq_false (show ¬ (0 : Int32) ≤ c by lia), Bool.false_and, if_neg (by decide), zl, t00, if_neg (by decide)]
    exact ⟨_, _, _, rfl, rfl, h.t 1, by simp [ANS, t00]⟩
  · rw [if_neg h0, decide_eq_true (show (0 : Int32) ≤ c by lia), Bool.true_and]
    by_cases h4 : c < 4
    · rw [if_pos h4, decide_eq_true (show c ≤ 3 by lia), if_pos rfl, zl, t00, if_pos (by decide), pr_isIn, zl, t01, k5]
      obtain ⟨col, hcol, rfl⟩ := nI_of h0
      have hc4 : col < 4 := (nI_ltI (b := 4) hcol (by decide)).mp h4
      by_cases ha : a < 0
      · rw [pc_toldNo k1 k3 _ (Or.inl ha), decide_eq_false (show ¬ (0 : Int32) ≤ a by lia), Bool.false_and, if_neg (by decide)]
        exact ⟨_, _, _, rfl, rfl, h.t 0, ⟨rfl, rfl⟩⟩
      · obtain ⟨ago, hago, rfl⟩ := nI_of ha
        rw [decide_eq_true (show (0 : Int32) ≤ nI ago by lia), Bool.true_and]
        by_cases hk : ago < k
        · have h1 : nI ago ≤ nI k - 1 := by
            obtain ⟨k', rfl⟩ : ∃ k', k = k' + 1 := ⟨k - 1, by omega⟩
            rw [nI_pred]; exact nI_le (by omega) (by omega)
          rw [decide_eq_true h1, if_pos rfl, pr_logged (by omega) hc4, pc_told k1 k2 k3 k4 k6 hk hc4, t01]
          exact ⟨_, _, _, rfl, rfl, h.t 0, ⟨rfl, rfl⟩⟩
        · have h1 : ¬ nI ago ≤ nI k - 1 := by
            by_cases hk0 : k = 0
            · subst hk0
              have : nI ago < 0 ∨ ¬ nI ago ≤ nI 0 - 1 := by
                right
                have := nI_pos' hago
                rw [show nI 0 - (1 : Int32) = -1 from by decide]
                lia
              rcases this with q | q
              · exact absurd q ha
              · exact q
            · obtain ⟨k', rfl⟩ : ∃ k', k = k' + 1 := ⟨k - 1, by omega⟩
              rw [nI_pred]; exact nI_ge (by omega) hago
          rw [decide_eq_false h1, if_neg (by decide), pc_toldNo k1 k3 _ (Or.inr (nI_le (by omega) hago))]
          exact ⟨_, _, _, rfl, rfl, h.t 0, ⟨rfl, rfl⟩⟩
    · rw [if_neg h4, decide_eq_false (show ¬ c ≤ 3 by lia), if_neg (by decide), zl, t00, if_neg (by decide)]
      exact ⟨_, _, _, rfl, rfl, h.t 1, by simp [ANS, t00]⟩
/-! who is no rider -/
theorem need_r {q : zq} {u : zU} {v : Nat → Int32} (hR : RW u 6 v) (hV : IV v) (a : Int32) (w : zU) (hw : w 1 = v) : (∃ x, x < rN v ∧ a = nI x ∧ f_X10_needRider q a u = some (.inr (), q, u) ∧ f_X11_isRider a w = true) ∨ (f_X10_needRider q a u = some (.inl "java/lang/IndexOutOfBoundsException", q, u) ∧ f_X11_isRider a w = false) := by
  have h8 := hV.n8
  rw [f_X10_needRider_e, f_X11_isRider_e, zl, pr_isIn, hw, hR.s8, hV.n]
  by_cases h0 : a < 0
  · right
    rw [if_pos h0, decide_eq_false (show ¬ (0 : Int32) ≤ a by lia)]; exact ⟨rfl, rfl⟩
  · obtain ⟨x, hx, rfl⟩ := nI_of h0
    rw [if_neg h0, decide_eq_true (show (0 : Int32) ≤ nI x by lia), Bool.true_and]
    by_cases h1 : x < rN v
    · left
      refine ⟨x, h1, rfl, by rw [if_pos (nI_lt h1 (by omega))], decide_eq_true ?_⟩
      obtain ⟨k', hk'⟩ : ∃ k', rN v = k' + 1 := ⟨rN v - 1, by omega⟩
      rw [hk', nI_pred]; exact nI_le (by omega) (by omega)
    · right
      refine ⟨by rw [if_neg (nI_nlt (by omega) hx)], decide_eq_false ?_⟩
      by_cases hk0 : rN v = 0
      · rw [hk0, show nI 0 - (1 : Int32) = -1 from by decide]
        have := nI_pos' hx
        lia
      · obtain ⟨k', hk'⟩ : ∃ k', rN v = k' + 1 := ⟨rN v - 1, by omega⟩
        rw [hk', nI_pred]; exact nI_ge (by omega) hx
theorem need_c {q : zq} {u : zU} (a : Int32) (w : zU) : (∃ x, x < 8 ∧ a = nI x ∧ f_X10_needCradle q a u = some (.inr (), q, u) ∧ f_X11_isCradle a w = true) ∨ (f_X10_needCradle q a u = some (.inl "java/lang/IndexOutOfBoundsException", q, u) ∧ f_X11_isCradle a w = false) := by
  rw [f_X10_needCradle_e, f_X11_isCradle_e, zl, pr_isIn]
  by_cases h0 : a < 0
  · right
    rw [if_pos h0, decide_eq_false (show ¬ (0 : Int32) ≤ a by lia)]; exact ⟨rfl, rfl⟩
  · obtain ⟨x, hx, rfl⟩ := nI_of h0
    rw [if_neg h0, decide_eq_true (show (0 : Int32) ≤ nI x by lia), Bool.true_and]
    by_cases h1 : nI x < 8
    · left
      exact ⟨x, (nI_ltI (b := 8) hx (by decide)).mp h1, rfl, by rw [if_pos h1], decide_eq_true (by lia)⟩
    · right
      exact ⟨by rw [if_neg h1], decide_eq_false (by lia)⟩
theorem need_p {q : zq} {u : zU} (a : Int32) (w : zU) : (∃ x, x < 4 ∧ a = nI x ∧ f_X10_needParty q a u = some (.inr (), q, u) ∧ f_X11_isParty a w = true) ∨ (f_X10_needParty q a u = some (.inl "java/lang/IndexOutOfBoundsException", q, u) ∧ f_X11_isParty a w = false) := by
  rw [f_X10_needParty_e, f_X11_isParty_e, zl, pr_isIn]
  by_cases h0 : a < 0
  · right
    rw [if_pos h0, decide_eq_false (show ¬ (0 : Int32) ≤ a by lia)]; exact ⟨rfl, rfl⟩
  · obtain ⟨x, hx, rfl⟩ := nI_of h0
    rw [if_neg h0, decide_eq_true (show (0 : Int32) ≤ nI x by lia), Bool.true_and]
    by_cases h1 : nI x < 4
    · left
      exact ⟨x, (nI_ltI (b := 4) hx (by decide)).mp h1, rfl, by rw [if_pos h1], decide_eq_true (by lia)⟩
    · right
      exact ⟨by rw [if_neg h1], decide_eq_false (by lia)⟩
theorem need_n {q : zq} {u : zU} (a b c : Int32) (w : zU) : (b ≤ a ∧ a ≤ c ∧ f_X10_needNumber q a b c u = some (.inr (), q, u) ∧ f_X11_isIn a b c w = true) ∨ (f_X10_needNumber q a b c u = some (.inl "java/lang/IllegalArgumentException", q, u) ∧ f_X11_isIn a b c w = false) := by
  rw [f_X10_needNumber_e, pr_isIn]
  by_cases h0 : a < b
  · right
    rw [if_pos h0, decide_eq_false (show ¬ b ≤ a by lia)]; exact ⟨rfl, rfl⟩
  · rw [if_neg h0, decide_eq_true (show b ≤ a by lia), Bool.true_and]
    by_cases h1 : a ≤ c
    · left
      exact ⟨by lia, h1, by rw [if_pos h1], decide_eq_true h1⟩
    · right
      exact ⟨by rw [if_neg h1], decide_eq_false h1⟩
theorem z_bxl {α β : Type} (E : String) (q : zq) (u : zU) (f : α → zq → zU → Option ((String ⊕ β) × zq × zU)) : z_bx (some (.inl E, q, u)) f = some (.inl E, q, u) := rfl
theorem z_bxr {α β : Type} (a : α) (q : zq) (u : zU) (f : α → zq → zU → Option ((String ⊕ β) × zq × zU)) : z_bx (some (.inr a, q, u)) f = f a q u := Eq.trans rfl rfl
theorem s_led {q : zq} {u r : zU} (h : RR q u r) (a : Int32) (c : Bool) : ∃ o x r', f_X10_led q a c u = some (o, q, u) ∧ f_X11_led a c r = some (x, r') ∧ RR q u r' ∧ ANS [("java/lang/IndexOutOfBoundsException", 1)] o x (r' 0 0) := by
  obtain ⟨T, T', hb⟩ := id h
  obtain ⟨k, nx, k1, k2, k3, k4, k5, k6⟩ := hb.2.1
  rw [f_X10_led_e, f_X11_led_e, zl]
  rcases need_r (q := q) h.rw h.iv a r rfl with ⟨x, hx, e1, e2, e3⟩ | ⟨e2, e3⟩
  · rw [e2, e3, z_bxr, if_pos rfl, zl, zl, t00, if_pos (by decide), t01, zl, k5, k3]
    have hm : ∀ d fuel (n f : Int32), d ≤ k → d < fuel → ∃ y, f_X10_led_21 q fuel a c n f (nI d - 1) u = some (.inr y, q, u) ∧ f_X11_led_42 fuel a c n f (nI d - 1) (z_up r 0 0 0) = some (y, z_up r 0 0 0) := by
      intro d
      induction d with
      | zero =>
        intro fuel n f hd hfu
        obtain ⟨m, rfl⟩ : ∃ m, fuel = m + 1 := ⟨fuel - 1, by omega⟩
        have hm1 : nI 0 - (1 : Int32) < 0 := by decide
        rw [f_X10_led_21_s, f_X11_led_42_s, if_pos hm1, if_pos hm1]
        cases c with
        | true => exact ⟨f, by rw [if_pos rfl], by rw [if_pos rfl]⟩
        | false => exact ⟨n, by rw [if_neg (by decide)], by rw [if_neg (by decide)]⟩
      | succ d ih =>
        intro fuel n f hd hfu
        obtain ⟨m, rfl⟩ : ∃ m, fuel = m + 1 := ⟨fuel - 1, by omega⟩
        rw [nI_pred, f_X10_led_21_s, f_X11_led_42_s, if_neg (nI_pos (by omega)), if_neg (nI_pos (by omega))]
        rw [show (2 : Int32) = nI 2 from rfl, show (0 : Int32) = nI 0 from rfl, pc_told k1 k2 k3 k4 k6 (by omega) (by decide), pr_logged (by omega) (by decide), Option.bind_some, Option.bind_some]
        rw [pc_told k1 k2 k3 k4 k6 (by omega) (by decide), pr_logged (by omega) (by decide), Option.bind_some, Option.bind_some, t01]
        rw [show nI d + (-1 : Int32) = nI d - 1 by lia]
        by_cases hc : r 1 (65 + 4 * d + 2) = a
        · rw [if_pos hc, if_pos hc]; exact ih m _ _ (by omega) (by omega)
        · rw [if_neg hc, if_neg hc]; exact ih m _ _ (by omega) (by omega)
    obtain ⟨y, y1, y2⟩ := hm k 5000 0 (-1) (Nat.le_refl k) (by omega)
    exact ⟨.inr y, y, z_up r 0 0 0, y1, y2, h.t 0, ⟨rfl, rfl⟩⟩
  · rw [e2, e3, z_bxl, if_neg (by decide), zl, t00, if_neg (by decide)]
    exact ⟨_, _, _, rfl, rfl, h.t 1, by simp [ANS, t00]⟩
/-! count -/
theorem pc_closed {q : zq} {u : zU} {v : Nat → Int32} (hR : RW u 6 v) : f_X10_closedCradles q u = some (nI (bset (fun c => decide (v (17 + c) = 0)) 8)) := by
  rw [f_X10_closedCradles_e]
  refine pu_bset (fun n s x => f_X10_closedCradles_4 q n s x u) 8 _ some (by decide) (fun n k s hk => ?_) (fun n s => ?_) 5000 (by decide)
  · show f_X10_closedCradles_4 q (n + 1) s (nI k) u = _
    rw [f_X10_closedCradles_4_s, if_neg (pu_ge8 hk), if_pos (pu_in hk (by decide)), zl, nI_clamp (by omega), hR.a12 hk, nI_1]
    by_cases hc : v (17 + k) = 0
    · rw [if_pos hc, zl, if_pos (decide_eq_true hc)]
    · rw [if_neg hc, if_neg (by rw [decide_eq_false hc]; decide)]
  · show f_X10_closedCradles_4 q (n + 1) s (nI 8) u = _
    rw [f_X10_closedCradles_4_s, if_pos pu_le8]
theorem pc_allPurses {q : zq} {u : zU} {v : Nat → Int32} (hR : RW u 6 v) (hV : IV v) : f_X10_allPurses q u = some (zfo (fun k s => s + v (27 + 4 * k)) (rN v) 0) := by
  have h8 := hV.n8
  rw [f_X10_allPurses_e]
  refine pu_loop (fun n s x => f_X10_allPurses_4 q n s x u) (rN v) _ some (fun n k s hk => ?_) (fun n s => ?_) 5000 (by omega)
  · show f_X10_allPurses_4 q (n + 1) s (nI k) u = _
    rw [f_X10_allPurses_4_s, hR.s8, hV.n, if_neg (nI_ge hk (by omega)), if_pos (pu_in (by omega) (by decide)), zl, zl, nI_clamp (by omega), hR.a9 (by omega), nI_1]
  · show f_X10_allPurses_4 q (n + 1) s (nI (rN v)) u = _
    rw [f_X10_allPurses_4_s, hR.s8, hV.n, if_pos (nI_le (Nat.le_refl _) (by omega))]
theorem pc_allBolts {q : zq} {u : zU} {v : Nat → Int32} (hR : RW u 6 v) : f_X10_allBolts q u = some (zfo (fun k s => s + v (17 + k)) 8 0) := by
  rw [f_X10_allBolts_e]
  refine pu_loop (fun n s x => f_X10_allBolts_4 q n s x u) 8 _ some (fun n k s hk => ?_) (fun n s => ?_) 5000 (by decide)
  · show f_X10_allBolts_4 q (n + 1) s (nI k) u = _
    rw [f_X10_allBolts_4_s, if_neg (pu_ge8 hk), if_pos (pu_in hk (by decide)), zl, zl, nI_clamp (by omega), hR.a12 hk, nI_1]
  · show f_X10_allBolts_4 q (n + 1) s (nI 8) u = _
    rw [f_X10_allBolts_4_s, if_pos pu_le8]
theorem pr_c192n {u : zU} {x : Int32} (s : Int32) (h : x ≠ 12) : f_X11_count_192 5000 x s 0 u = if (decide ((10 : Int32) ≤ x) && decide (x ≤ 12)) = true then some (s, u) else some (-1, u) := by
  rw [f_X11_count_192_s _ x s 0 u, if_neg (by decide), if_neg h, zl, pr_isIn]
theorem pr_c159n {u : zU} {x : Int32} (s : Int32) (h : x ≠ 11) : f_X11_count_159 5000 x s 0 u = f_X11_count_192 5000 x s 0 u := by
  rw [f_X11_count_159_s _ x s 0 u, if_neg h]
  split <;> rfl
theorem pr_c117n {u : zU} {x : Int32} (s : Int32) (h : x ≠ 10) : f_X11_count_117 5000 x s 0 u = f_X11_count_159 5000 x s 0 u := by
  rw [f_X11_count_117_s _ x s 0 u, if_neg (by decide), if_neg h]
theorem pr_c10 {u : zU} : f_X11_count_117 5000 10 0 0 u = some (nI (bset (fun c => decide (u 1 (17 + c) = 0)) 8), u) := by
  have e : ∀ s, f_X11_count_159 5000 10 s 0 u = some (s, u) := fun s => by rw [pr_c159n s (by decide), pr_c192n s (by decide), if_pos (by decide)]
  refine pu_bset (fun n s x => f_X11_count_117 n 10 s x u) 8 _ (fun s => some (s, u)) (by decide) (fun n k s hk => ?_) (fun n s => ?_) 5000 (by decide)
  · show f_X11_count_117 (n + 1) 10 s (nI k) u = _
    rw [f_X11_count_117_s, if_neg (pu_ge8 hk), if_pos rfl, pu_l17, if_pos (pu_in (by omega) (by decide)), zl, nI_clamp (by omega), nI_1]
    by_cases hc : u 1 (17 + k) = 0
    · rw [if_pos hc, zl, if_pos (decide_eq_true hc)]
    · rw [if_neg hc, zl, if_neg (by rw [decide_eq_false hc]; decide), Int32.or_zero]
  · show f_X11_count_117 (n + 1) 10 s (nI 8) u = _
    rw [f_X11_count_117_s, if_pos pu_le8, e]
theorem pr_c11 {u : zU} (hV : IV (u 1)) : f_X11_count_117 5000 11 0 0 u = some (zfo (fun k s => s + u 1 (27 + 4 * k)) (rN (u 1)) 0, u) := by
  have h8 := hV.n8
  have e : ∀ s, f_X11_count_192 5000 11 s 0 u = some (s, u) := fun s => by rw [pr_c192n s (by decide), if_pos (by decide)]
  rw [pr_c117n 0 (by decide)]
  refine pu_loop (fun n s x => f_X11_count_159 n 11 s x u) (rN (u 1)) _ (fun s => some (s, u)) (fun n k s hk => ?_) (fun n s => ?_) 5000 (by omega)
  · show f_X11_count_159 (n + 1) 11 s (nI k) u = _
    rw [f_X11_count_159_s, hV.n, if_neg (nI_ge hk (by omega)), if_pos rfl, pr_of2 (by omega), Option.bind_some, zl, nI_1]
  · show f_X11_count_159 (n + 1) 11 s (nI (rN (u 1))) u = _
    rw [f_X11_count_159_s, hV.n, if_pos (nI_le (Nat.le_refl _) (by omega)), e]
theorem pr_c12 {u : zU} : f_X11_count_117 5000 12 0 0 u = some (zfo (fun k s => s + u 1 (17 + k)) 8 0, u) := by
  rw [pr_c117n 0 (by decide), pr_c159n 0 (by decide)]
  refine pu_loop (fun n s x => f_X11_count_192 n 12 s x u) 8 _ (fun s => some (s, u)) (fun n k s hk => ?_) (fun n s => ?_) 5000 (by decide)
  · show f_X11_count_192 (n + 1) 12 s (nI k) u = _
    rw [f_X11_count_192_s, if_neg (pu_ge8 hk), if_pos rfl, pu_l17, if_pos (pu_in (by omega) (by decide)), zl, zl, nI_clamp (by omega), nI_1]
  · show f_X11_count_192 (n + 1) 12 s (nI 8) u = _
    rw [f_X11_count_192_s, if_pos pu_le8, zl, pr_isIn, if_pos (by decide)]
theorem s_count {q : zq} {u r : zU} (h : RR q u r) (a : Int32) : ∃ x, f_X10_count q a u = some x ∧ f_X11_count a r = some (x, z_up r 0 0 0) ∧ RR q u (z_up r 0 0 0) := by
  have h0 := h.t 0
  have hV : IV ((z_up r 0 0 0) 1) := h0.iv
  have hR : RW u 6 ((z_up r 0 0 0) 1) := h0.rw
  obtain ⟨T, T', hb⟩ := id h0
  obtain ⟨k, nx, k1, k2, k3, k4, k5, k6⟩ := hb.2.1
  obtain ⟨ac, x, c1, c2, c3, c4, c5, c6⟩ := hb.2.2.2.2.2.1
  have hL := hb.1.2.2.1
  have hX := hb.2.2.1.1
  rw [f_X10_count_e, f_X11_count_e, zl]
  generalize z_up r 0 0 0 = r0 at *
  have hin : ∀ j : Nat, j < 100 → (4 : Int32) + nI j - 4 = nI j := fun j hj => by rw [show (4 : Int32) = nI 4 from rfl, nI_add, pk_sub (by omega)]; congr 1; omega
  have m48 : ∀ j : Nat, 4 ≤ j → j ≤ 8 → a = nI j → f_X11_isIn a 4 8 r0 = true := fun j h1 h2 e => by
    rw [pr_isIn, e, decide_eq_true (show (4 : Int32) ≤ nI j from nI_le (a := 4) h1 (by omega)), decide_eq_true (show nI j ≤ (8 : Int32) from nI_le (b := 8) h2 (by decide))]; rfl
  have n48 : (a < 4 ∨ 8 < a) → f_X11_isIn a 4 8 r0 = false := fun e => by
    rw [pr_isIn]
    rcases e with e | e
    · rw [decide_eq_false (show ¬ (4 : Int32) ≤ a by lia)]; rfl
    · rw [decide_eq_false (show ¬ a ≤ (8 : Int32) by lia), Bool.and_false]
  by_cases g0 : a = 0
  · rw [if_pos g0, if_pos g0]; exact ⟨_, rfl, by rw [hR.s8], h0⟩
  rw [if_neg g0, if_neg g0]
  by_cases g1 : a = 1
  · rw [if_pos g1, if_pos g1]; exact ⟨_, rfl, by rw [hX], h0⟩
  rw [if_neg g1, if_neg g1]
  by_cases g2 : a = 2
  · rw [if_pos g2, if_pos g2]; exact ⟨_, rfl, by rw [hL], h0⟩
  rw [if_neg g2, if_neg g2]
  by_cases g3 : a = 3
  · rw [if_pos g3, if_pos g3]; exact ⟨_, rfl, by rw [hR.s15], h0⟩
  rw [if_neg g3, if_neg g3, zl]
  by_cases g4 : a = 4
  · rw [if_pos g4, m48 4 (by decide) (by decide) g4, if_pos rfl, g4, show (4 : Int32) + 4 - 4 = nI 4 from by decide, if_pos (pu_in (by decide) (by decide)), zl, nI_clamp (by decide)]
    exact ⟨_, rfl, by rw [hR.s14], h0⟩
  rw [if_neg g4]
  by_cases g5 : a = 5
  · rw [if_pos g5, m48 5 (by decide) (by decide) g5, if_pos rfl, g5, show (4 : Int32) + 5 - 4 = nI 5 from by decide, if_pos (pu_in (by decide) (by decide)), zl, nI_clamp (by decide)]
    exact ⟨_, rfl, by rw [hR.s10], h0⟩
  rw [if_neg g5]
  by_cases g6 : a = 6
  · rw [if_pos g6, m48 6 (by decide) (by decide) g6, if_pos rfl, g6, show (4 : Int32) + 6 - 4 = nI 6 from by decide, if_pos (pu_in (by decide) (by decide)), zl, nI_clamp (by decide)]
    exact ⟨_, rfl, by rw [hR.s11], h0⟩
  rw [if_neg g6]
  by_cases g7 : a = 7
  · rw [if_pos g7, m48 7 (by decide) (by decide) g7, if_pos rfl, g7, show (4 : Int32) + 7 - 4 = nI 7 from by decide, if_pos (pu_in (by decide) (by decide)), zl, nI_clamp (by decide)]
    exact ⟨_, rfl, by rw [hR.s12], h0⟩
  rw [if_neg g7]
  by_cases g8 : a = 8
  · rw [if_pos g8, m48 8 (by decide) (by decide) g8, if_pos rfl, g8, show (4 : Int32) + 8 - 4 = nI 8 from by decide, if_pos (pu_in (by decide) (by decide)), zl, nI_clamp (by decide)]
    exact ⟨_, rfl, by rw [hR.s13], h0⟩
  rw [if_neg g8, n48 (by lia), if_neg Bool.false_ne_true]
  by_cases g9 : a = 9
  · rw [if_pos g9, if_pos g9]; exact ⟨_, rfl, by rw [hR.s9], h0⟩
  rw [if_neg g9, if_neg g9]
  by_cases g10 : a = 10
  · rw [if_pos g10, g10, if_neg (by decide), if_neg (by decide), pc_closed hR, pr_c10]; exact ⟨_, rfl, rfl, h0⟩
  rw [if_neg g10]
  by_cases g11 : a = 11
  · rw [if_pos g11, g11, if_neg (by decide), if_neg (by decide), pc_allPurses hR hV, pr_c11 hV]; exact ⟨_, rfl, rfl, h0⟩
  rw [if_neg g11]
  by_cases g12 : a = 12
  · rw [if_pos g12, g12, if_neg (by decide), if_neg (by decide), pc_allBolts hR, pr_c12]; exact ⟨_, rfl, rfl, h0⟩
  rw [if_neg g12]
  by_cases g13 : a = 13
  · rw [if_pos g13, if_pos g13]; exact ⟨_, rfl, by rw [k3, k5], h0⟩
  rw [if_neg g13, if_neg g13]
  by_cases g14 : a = 14
  · rw [if_pos g14, if_pos g14]; exact ⟨_, rfl, by rw [c3, c4], h0⟩
  rw [if_neg g14, if_neg g14, pr_c117n 0 g10, pr_c159n 0 g11, pr_c192n 0 g12, if_neg (by
    rw [Bool.and_eq_true, decide_eq_true_eq, decide_eq_true_eq]
    lia)]
  exact ⟨_, rfl, rfl, h0⟩
