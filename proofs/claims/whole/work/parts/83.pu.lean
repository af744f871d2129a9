/-! PURE, 34: counts, odds -/
def E78 (r r' : zU) : Prop := ∀ k, k ≠ 7 → k ≠ 8 → r' k = r k
theorem E78.up7 {r r' : zU} (h : E78 r r') (j : Nat) (y : Int32) : E78 r (z_up r' 7 j y) := fun k h7 h8 => by rw [z_up_ne h7]; exact h k h7 h8
theorem E78.up8 {r r' : zU} (h : E78 r r') (j : Nat) (y : Int32) : E78 r (z_up r' 8 j y) := fun k h7 h8 => by rw [z_up_ne h8]; exact h k h7 h8
def A8 (f g : Nat → Int32) : Prop := ∀ j, j < 8 → f j = g j
theorem A8.up {f g : Nat → Int32} (h : A8 f g) (i : Nat) {x y : Int32} (e : x = y) : A8 (upd f i x) (upd g i y) := fun j hj => by
  by_cases hi : j = i
  · rw [hi, upd_eq, upd_eq, e]
  · rw [upd_ne hi, upd_ne hi]; exact h j hj
theorem pr_c91 {r : zU} {ways next : Nat → Int32} {R c : Nat} (h7 : r 1 7 = nI R) (hR : R ≤ 8) (hc : c < 8) (K : Int32 → Int32 → Int32 → Int32 → zU → Option (Int32 × zU)) (x1 x2 x3 : Int32) : ∀ d i fuel u, i + d = R → d < fuel → E78 r u → A8 (u 7) ways → A8 (u 8) (sI ways c i next) → ∃ u', f_X11_counts_91 K fuel x1 x2 x3 (nI c) (nI (i + 1)) u = K x1 x2 x3 (nI (c + 1)) u' ∧ E78 r u' ∧ A8 (u' 7) ways ∧ A8 (u' 8) (sI ways c R next) := by
  intro d
  induction d with
  | zero =>
    intro i fuel u hi hf hE hw hn
    obtain ⟨m, rfl⟩ : ∃ m, fuel = m + 1 := ⟨fuel - 1, by omega⟩
    obtain rfl : i = R := by omega
    rw [f_X11_counts_91_s, hE 1 (by decide) (by decide), h7, if_pos (nI_lt (show i < i + 1 by omega) (by omega)), nI_1]
    exact ⟨u, rfl, hE, hw, hn⟩
  | succ d ih =>
    intro i fuel u hi hf hE hw hn
    obtain ⟨m, rfl⟩ : ∃ m, fuel = m + 1 := ⟨fuel - 1, by omega⟩
    have hz : (c + (i + 1)) % 8 < 8 := Nat.mod_lt _ (by decide)
    rw [f_X11_counts_91_s, hE 1 (by decide) (by decide), h7, if_neg (nI_nlt (show i + 1 ≤ R by omega) (by omega)), (cs0 c hc (i + 1) (by omega)).2, zl, if_pos (pu_in hz (by decide)), zl, if_pos (pu_in hc (by decide)), zl, if_pos (pu_in hz (by decide)), zl, nI_clamp (show (c + (i + 1)) % 8 < 2 ^ 31 by omega), nI_clamp (show c < 2 ^ 31 by omega), nI_1]
    refine ih (i + 1) m _ (by omega) (by omega) (hE.up8 _ _) ?_ ?_
    · rw [z_up_ne (by decide)]; exact hw
    · rw [z_up_eq]
      exact hn.up _ (by rw [hn _ hz, hw c hc]; rfl)
theorem pr_c141 {r : zU} {next : Nat → Int32} (K : Int32 → Int32 → Int32 → zU → Option (Int32 × zU)) (x1 x2 x3 : Int32) : ∀ d i fuel u, i + d = 8 → d < fuel → E78 r u → A8 (u 8) next → (∀ j, j < i → u 7 j = next j) → ∃ u', f_X11_counts_141 K fuel x1 x2 x3 (nI i) u = K x1 x2 (x3 + 1) u' ∧ E78 r u' ∧ A8 (u' 7) next := by
  intro d
  induction d with
  | zero =>
    intro i fuel u hi hf hE hn hw
    obtain ⟨m, rfl⟩ : ∃ m, fuel = m + 1 := ⟨fuel - 1, by omega⟩
    obtain rfl : i = 8 := by omega
    rw [f_X11_counts_141_s, if_pos pu_le8]
    exact ⟨u, rfl, hE, hw⟩
  | succ d ih =>
    intro i fuel u hi hf hE hn hw
    obtain ⟨m, rfl⟩ : ∃ m, fuel = m + 1 := ⟨fuel - 1, by omega⟩
    have hi8 : i < 8 := by omega
    rw [f_X11_counts_141_s, if_neg (pu_ge8 hi8), if_pos (pu_in hi8 (by decide)), zl, if_pos (pu_in hi8 (by decide)), zl, nI_clamp (by omega), nI_1]
    refine ih (i + 1) m _ (by omega) (by omega) (hE.up7 _ _) ?_ ?_
    · rw [z_up_ne (by decide)]; exact hn
    · intro j hj
      rw [z_up_eq]
      by_cases e : j = i
      · rw [e, upd_eq, hn i hi8]
      · rw [upd_ne e]; exact hw j (by omega)
theorem pr_c81 {r : zU} {ways next : Nat → Int32} {R : Nat} (h7 : r 1 7 = nI R) (hR : R ≤ 8) (K : Int32 → Int32 → Int32 → zU → Option (Int32 × zU)) (x1 x2 x3 : Int32) : ∀ d c fuel u, c + d = 8 → d < fuel → E78 r u → A8 (u 7) ways → A8 (u 8) (sCy ways R c next) → ∃ u', f_X11_counts_81 K fuel x1 x2 x3 (nI c) u = K x1 x2 (x3 + 1) u' ∧ E78 r u' ∧ A8 (u' 7) (sCy ways R 8 next) := by
  intro d
  induction d with
  | zero =>
    intro c fuel u hi hf hE hw hn
    obtain ⟨m, rfl⟩ : ∃ m, fuel = m + 1 := ⟨fuel - 1, by omega⟩
    obtain rfl : c = 8 := by omega
    rw [f_X11_counts_81_s, if_pos pu_le8]
    exact pr_c141 K x1 x2 x3 8 0 5000 u rfl (by decide) hE hn (fun j hj => absurd hj (by omega))
  | succ d ih =>
    intro c fuel u hi hf hE hw hn
    obtain ⟨m, rfl⟩ : ∃ m, fuel = m + 1 := ⟨fuel - 1, by omega⟩
    obtain ⟨u1, e1, a1, a2, a3⟩ := pr_c91 (next := sCy ways R c next) h7 hR (show c < 8 by omega) (fun k1 k2 k3 k4 u => f_X11_counts_81 K m k1 k2 k3 k4 u) x1 x2 x3 R 0 5000 u (by omega) (by omega) hE hw hn
    obtain ⟨u2, e2, b1, b2⟩ := ih (c + 1) m u1 (by omega) (by omega) a1 a2 a3
    refine ⟨u2, ?_, b1, b2⟩
    rw [f_X11_counts_81_s, if_neg (pu_ge8 (by omega))]
    exact e1.trans e2
theorem pr_c57 {r : zU} {ways : Nat → Int32} {R : Nat} (h7 : r 1 7 = nI R) (hR : R ≤ 8) (K : Int32 → Int32 → Int32 → zU → Option (Int32 × zU)) (x1 x2 x3 : Int32) : ∀ d c fuel u, c + d = 8 → d < fuel → E78 r u → A8 (u 7) ways → (∀ j, j < c → u 8 j = 0) → ∃ u', f_X11_counts_57 K fuel x1 x2 x3 (nI c) u = K x1 x2 (x3 + 1) u' ∧ E78 r u' ∧ A8 (u' 7) (sCy ways R 8 zO0) := by
  intro d
  induction d with
  | zero =>
    intro c fuel u hi hf hE hw hn
    obtain ⟨m, rfl⟩ : ∃ m, fuel = m + 1 := ⟨fuel - 1, by omega⟩
    obtain rfl : c = 8 := by omega
    rw [f_X11_counts_57_s, if_pos pu_le8]
    exact pr_c81 h7 hR K x1 x2 x3 8 0 5000 u rfl (by decide) hE hw hn
  | succ d ih =>
    intro c fuel u hi hf hE hw hn
    obtain ⟨m, rfl⟩ : ∃ m, fuel = m + 1 := ⟨fuel - 1, by omega⟩
    have hc8 : c < 8 := by omega
    rw [f_X11_counts_57_s, if_neg (pu_ge8 hc8), if_pos (pu_in hc8 (by decide)), zl, nI_clamp (by omega), nI_1]
    refine ih (c + 1) m _ (by omega) (by omega) (hE.up8 _ _) ?_ ?_
    · rw [z_up_ne (by decide)]; exact hw
    · intro j hj
      rw [z_up_eq]
      by_cases e : j = c
      · rw [e, upd_eq]
      · rw [upd_ne e]; exact hn j (by omega)
theorem pr_c39 {r : zU} {R t n : Nat} (h7 : r 1 7 = nI R) (hR : R ≤ 8) (hn5 : n ≤ 5) : ∀ d i fuel u, i + d = n → d < fuel → E78 r u → A8 (u 7) (wy R t i) → ∃ u', f_X11_counts_39 fuel (nI n) (nI (R ^ i)) (nI i) u = some (nI (R ^ n), u') ∧ E78 r u' ∧ A8 (u' 7) (wy R t n) := by
  intro d
  induction d with
  | zero =>
    intro i fuel u hi hf hE hw
    obtain ⟨m, rfl⟩ : ∃ m, fuel = m + 1 := ⟨fuel - 1, by omega⟩
    obtain rfl : i = n := by omega
    rw [f_X11_counts_39_s, if_pos (nI_le (Nat.le_refl _) (by omega))]
    exact ⟨u, rfl, hE, hw⟩
  | succ d ih =>
    intro i fuel u hi hf hE hw
    obtain ⟨m, rfl⟩ : ∃ m, fuel = m + 1 := ⟨fuel - 1, by omega⟩
    obtain ⟨u1, e1, a1, a2⟩ := pr_c57 (ways := wy R t i) h7 hR (fun k1 k2 k3 u => f_X11_counts_39 m k1 k2 k3 u) (nI n) (nI (R ^ (i + 1))) (nI i) 8 0 5000 u rfl (by decide) hE hw (fun j hj => absurd hj (by omega))
    obtain ⟨u2, e2, b1, b2⟩ := ih (i + 1) m u1 (by omega) (by omega) a1 a2
    refine ⟨u2, ?_, b1, b2⟩
    rw [f_X11_counts_39_s, if_neg (nI_ge (by omega) (by omega)), hE 1 (by decide) (by decide), h7, pu_mul, ← Nat.pow_succ, zl]
    rw [nI_1] at e1
    exact e1.trans e2
theorem pr_c4 {r : zU} (hV : IV (r 1)) {R n : Nat} (h7 : r 1 7 = nI R) (hR : R ≤ 8) (hn5 : n ≤ 5) : ∀ d c fuel u, c + d = 8 → d < fuel → E78 r u → (∀ j, j < c → u 7 j = wy R (tP (r 1)) 0 j) → ∃ u', f_X11_counts_4 fuel (nI n) 1 (nI c) u = some (nI (R ^ n), u') ∧ E78 r u' ∧ A8 (u' 7) (wy R (tP (r 1)) n) := by
  have ht8 := hV.t8
  intro d
  induction d with
  | zero =>
    intro c fuel u hi hf hE hw
    obtain ⟨m, rfl⟩ : ∃ m, fuel = m + 1 := ⟨fuel - 1, by omega⟩
    obtain rfl : c = 8 := by omega
    rw [f_X11_counts_4_s, if_pos pu_le8]
    exact pr_c39 (t := tP (r 1)) h7 hR hn5 n 0 5000 u (by omega) (by omega) hE hw
  | succ d ih =>
    intro c fuel u hi hf hE hw
    obtain ⟨m, rfl⟩ : ∃ m, fuel = m + 1 := ⟨fuel - 1, by omega⟩
    have hc8 : c < 8 := by omega
    rw [f_X11_counts_4_s, if_neg (pu_ge8 hc8), hE 1 (by decide) (by decide), hV.t]
    by_cases e : c = tP (r 1)
    · rw [if_pos (show nI c = nI (tP (r 1)) by rw [e]), if_pos (pu_in hc8 (by decide)), zl, nI_clamp (by omega), nI_1]
      refine ih (c + 1) m _ (by omega) (by omega) (hE.up7 _ _) (fun j hj => ?_)
      rw [z_up_eq]
      by_cases ej : j = c
      · show _ = upd zO0 (tP (r 1)) 1 j
        rw [ej, upd_eq, e, upd_eq]
      · rw [upd_ne ej]; exact hw j (by omega)
    · rw [if_neg (show ¬ nI c = nI (tP (r 1)) from fun h => e ((nI_eq (by omega) (by omega)).mp h)), if_pos (pu_in hc8 (by decide)), zl, nI_clamp (by omega), nI_1]
      refine ih (c + 1) m _ (by omega) (by omega) (hE.up7 _ _) (fun j hj => ?_)
      rw [z_up_eq]
      by_cases ej : j = c
      · show _ = upd zO0 (tP (r 1)) 1 j
        rw [ej, upd_eq, upd_ne e]
      · rw [upd_ne ej]; exact hw j (by omega)
theorem pr_counts {r : zU} (hV : IV (r 1)) {R n : Nat} (h7 : r 1 7 = nI R) (hR : R ≤ 8) (hn5 : n ≤ 5) : ∃ u', f_X11_counts (nI n) r = some (nI (R ^ n), u') ∧ E78 r u' ∧ A8 (u' 7) (wy R (tP (r 1)) n) := by
  rw [f_X11_counts_e]
  exact pr_c4 hV h7 hR hn5 8 0 5000 r rfl (by decide) (fun k _ _ => rfl) (fun j hj => absurd hj (by omega))
theorem RR.e78 {q : zq} {u r r' : zU} (h : RR q u r) (hE : E78 r r') : RR q u r' := by
  obtain ⟨T, T', hb⟩ := h
  exact ⟨T, T', hb.tmp (w := 6) (Or.inl rfl) Fr.rf hb.1.1.1 hb.1.1.2.2.1 (hE 1 (by decide) (by decide)) (hE 2 (by decide) (by decide)) (hE 4 (by decide) (by decide)) (hE 5 (by decide) (by decide)) (by rw [hE 0 (by decide) (by decide)]) (by rw [hE 0 (by decide) (by decide)]) (by rw [hE 0 (by decide) (by decide)]) (by rw [hE 0 (by decide) (by decide)])⟩
theorem num5 {a : Int32} (h1 : 1 ≤ a) (h2 : a ≤ 5) : ∃ n, 1 ≤ n ∧ n ≤ 5 ∧ a = nI n := by
  have h : a = 1 ∨ a = 2 ∨ a = 3 ∨ a = 4 ∨ a = 5 := by lia
  rcases h with rfl | rfl | rfl | rfl | rfl
  · exact ⟨1, by decide, by decide, rfl⟩
  · exact ⟨2, by decide, by decide, rfl⟩
  · exact ⟨3, by decide, by decide, rfl⟩
  · exact ⟨4, by decide, by decide, rfl⟩
  · exact ⟨5, by decide, by decide, rfl⟩
theorem pw_0 {R n : Nat} (h1 : 1 ≤ R) (hR : R ≤ 8) (hn : n ≤ 5) : ¬ nI (R ^ n) = 0 := fun e => by
  obtain ⟨p1, p2⟩ := pw8 (n := n) h1 hR hn
  have : R ^ n = 0 := (nI_eq (b := 0) (by omega) (by decide)).mp e
  omega
theorem wl_8 {al : Int32} {ways : Nat → Int32} {j : Nat} (hj : j < 8) : wl al ways 8 j = (10000 * ways j) / al := by
  show (if j < 8 then ways j * 10000 / al else ways j) = _
  rw [if_pos hj, Int32.mul_comm]
theorem s_odds {q : zq} {u r : zU} (h : RR q u r) (a b : Int32) : ∃ o x r', f_X10_odds q a b u = some (o, q, u) ∧ f_X11_odds a b r = some (x, r') ∧ RR q u r' ∧ ANS [(eIO, 1), (eIA, 2)] o x (r' 0 0) := by
  have hV := h.iv
  rcases need_c (q := q) (u := u) a r with ⟨c, hc, e1, e2, e3⟩ | ⟨e2, e3⟩
  · rcases need_n (q := q) (u := u) b 1 5 r with ⟨l1, l2, f2, f3⟩ | ⟨f2, f3⟩
    · obtain ⟨n, n1, n5, rfl⟩ := num5 l1 l2
      obtain ⟨R, R1, R8, h7⟩ := hV.v7
      obtain ⟨r', y1, y2, y3⟩ := pr_counts (r := z_up r 0 0 0) hV h7 R8 n5
      have hc' : f_X10_odds q a (nI n) u = some (.inr ((10000 * wy R (tP (r 1)) n c) / nI (R ^ n)), q, u) := by
        unfold f_X10_odds
        rw [e2, z_bxr, f2, z_bxr, pc_oddsBy h.rw hV R1 R8 h7 n5, Option.bind_some, e1, if_pos (pu_in hc (by decide)), nI_clamp (by omega), wl_8 hc]
      have hr : f_X11_odds a (nI n) r = some ((10000 * wy R (tP (r 1)) n c) / nI (R ^ n), r') := by
        rw [f_X11_odds_e, e3, zl, if_pos rfl, f3, zl, if_pos rfl, zl, t00, if_pos (by decide), y1, z_b2s, e1, if_pos (pu_in hc (by decide)), zl, nI_clamp (by omega), y3 c hc, if_pos (pw_0 R1 R8 n5)]
        rfl
      exact ⟨_, _, _, hc', hr, (h.t 0).e78 y2, ⟨by rw [y2 0 (by decide) (by decide), t00], rfl⟩⟩
    · have hc : f_X10_odds q a b u = some (.inl eIA, q, u) := by unfold f_X10_odds; rw [e2, z_bxr, f2, z_bxl]
      have hr : f_X11_odds a b r = some (0, z_up r 0 0 2) := by rw [f_X11_odds_e, e3, zl, if_pos rfl, f3, zl, if_neg Bool.false_ne_true, zl, t00, if_neg (by decide)]
      exact ⟨_, _, _, hc, hr, h.t 2, by simp [ANS, t00]⟩
  · have hc : f_X10_odds q a b u = some (.inl eIO, q, u) := by unfold f_X10_odds; rw [e2, z_bxl]
    have hr : f_X11_odds a b r = some (0, z_up r 0 0 1) := by rw [f_X11_odds_e, e3, zl, if_neg Bool.false_ne_true, zl, t00, if_neg (by decide)]
    exact ⟨_, _, _, hc, hr, h.t 1, by simp [ANS, t00]⟩
