/-! PURE, 39: moves, watch -/
theorem le_min (y a b : Int32) : y ≤ z_min a b ↔ y ≤ a ∧ y ≤ b := by
  show y ≤ (if b < a then b else a) ↔ _
  split
  · constructor
    · intro h; exact ⟨by lia, h⟩
    · intro h; exact h.2
  · constructor
    · intro h; exact ⟨h, by lia⟩
    · intro h; exact h.1
theorem max_le (y a b : Int32) : z_max a b ≤ y ↔ a ≤ y ∧ b ≤ y := by
  show (if a < b then b else a) ≤ y ↔ _
  split
  · constructor
    · intro h; exact ⟨by lia, h⟩
    · intro h; exact h.2
  · constructor
    · intro h; exact ⟨h, by lia⟩
    · intro h; exact h.1
theorem lo_iff (v : Nat → Int32) (y : Int32) : ∀ n, y ≤ sLo v n ↔ y ≤ 31 ∧ ∀ k, k < n → y ≤ v k
  | 0 => ⟨fun h => ⟨h, fun k hk => absurd hk (by omega)⟩, fun h => h.1⟩
  | n + 1 => by
    have ih := lo_iff v y n
    show y ≤ z_min (sLo v n) (v n) ↔ _
    rw [le_min, ih]
    constructor
    · intro h
      refine ⟨h.1.1, fun k hk => ?_⟩
      by_cases e : k = n
      · rw [e]; exact h.2
      · exact h.1.2 k (by omega)
    · intro h
      exact ⟨⟨h.1, fun k hk => h.2 k (by omega)⟩, h.2 n (by omega)⟩
theorem hi_iff (v : Nat → Int32) (y : Int32) : ∀ n, sHi v n ≤ y ↔ 0 ≤ y ∧ ∀ k, k < n → v k ≤ y
  | 0 => ⟨fun h => ⟨h, fun k hk => absurd hk (by omega)⟩, fun h => h.1⟩
  | n + 1 => by
    have ih := hi_iff v y n
    show z_max (sHi v n) (v n) ≤ y ↔ _
    rw [max_le, ih]
    constructor
    · intro h
      refine ⟨h.1.1, fun k hk => ?_⟩
      by_cases e : k = n
      · rw [e]; exact h.2
      · exact h.1.2 k (by omega)
    · intro h
      exact ⟨⟨h.1, fun k hk => h.2 k (by omega)⟩, h.2 n (by omega)⟩
theorem bal_iff (P : Nat → Bool) : ∀ d k, bal P d k = true ↔ ∀ i, k ≤ i → i < k + d → P i = true
  | 0, k => ⟨fun _ i h1 h2 => absurd h2 (by omega), fun _ => rfl⟩
  | d + 1, k => by
    have ih := bal_iff P d (k + 1)
    show (P k && bal P d (k + 1)) = true ↔ _
    rw [Bool.and_eq_true, ih]
    constructor
    · intro h i h1 h2
      by_cases e : i = k
      · rw [e]; exact h.1
      · exact h.2 i (by omega) (by omega)
    · intro h
      exact ⟨h k (by omega) (by omega), fun i h1 h2 => h i (by omega) (by omega)⟩
theorem cBe_iff {v : Nat → Int32} {n rc s : Nat} (hs : s < 10) : cBe v n (10 * rc + s) = true ↔ ∀ k, k < n → nI (s + 1) ≤ v k ∧ v k ≤ nI (s + (rc + 1)) := by
  unfold cBe
  rw [bal_iff]
  have e1 : (10 * rc + s) % 10 = s := by omega
  have e2 : (10 * rc + s) / 10 = rc := by omega
  constructor
  · intro h k hk
    have := h k (by omega) (by omega)
    unfold cB1 at this
    rw [e1, e2, Bool.and_eq_true] at this
    exact ⟨of_decide_eq_true this.1, of_decide_eq_true this.2⟩
  · intro h k _ hk
    unfold cB1
    rw [e1, e2, Bool.and_eq_true]
    have := h k (by omega)
    exact ⟨decide_eq_true this.1, decide_eq_true this.2⟩
theorem pc_can {q : zq} {u : zU} {v : Nat → Int32} {n rc s : Nat} (hs : s < 10) (hr : rc < 8) : f_X10_canMove q (nI s) (nI (rc + 1)) (sLo v n) (sHi v n) u = cBe v n (10 * rc + s) := by
  rw [f_X10_canMove_e, nI_1, nI_add]
  have h31 : nI (s + 1) ≤ (31 : Int32) := nI_le (b := 31) (by omega) (by decide)
  have h0 : (0 : Int32) ≤ nI (s + (rc + 1)) := nI_le (a := 0) (Nat.zero_le _) (by omega)
  have hlo := lo_iff v (nI (s + 1)) n
  have hhi := hi_iff v (nI (s + (rc + 1))) n
  have hc := cBe_iff (v := v) (n := n) (rc := rc) hs
  by_cases h1 : sLo v n < nI (s + 1)
  · rw [if_pos h1]
    refine (Bool.eq_false_iff.mpr (fun e => ?_)).symm
    exact (Int32.not_le.mpr h1) (hlo.mpr ⟨h31, fun k hk => ((hc.mp e) k hk).1⟩)
  · rw [if_neg h1]
    by_cases h2 : nI (s + (rc + 1)) < sHi v n
    · rw [if_pos h2]
      refine (Bool.eq_false_iff.mpr (fun e => ?_)).symm
      exact (Int32.not_le.mpr h2) (hhi.mpr ⟨h0, fun k hk => ((hc.mp e) k hk).2⟩)
    · rw [if_neg h2]
      exact (hc.mpr (fun k hk => ⟨(hlo.mp (Int32.not_lt.mp h1)).2 k hk, (hhi.mp (Int32.not_lt.mp h2)).2 k hk⟩)).symm
theorem pc_can1 {q : zq} {u : zU} {rc s : Nat} (hs : s < 10) (e : Int32) : f_X10_canMove q (nI s) (nI (rc + 1)) e e u = (decide (nI (s + 1) ≤ e) && decide (e ≤ nI (s + (rc + 1)))) := by
  rw [f_X10_canMove_e, nI_1, nI_add]
  by_cases h1 : e < nI (s + 1)
  · rw [if_pos h1, decide_eq_false (Int32.not_le.mpr h1)]; rfl
  · rw [if_neg h1, decide_eq_true (Int32.not_lt.mp h1)]
    by_cases h2 : nI (s + (rc + 1)) < e
    · rw [if_pos h2, decide_eq_false (Int32.not_le.mpr h2)]; rfl
    · rw [if_neg h2, decide_eq_true (Int32.not_lt.mp h2)]; rfl
theorem pc_fit {q : zq} {u : zU} {lo hi e : Int32} {Q : Nat → Bool} (hQ : ∀ rc s, rc < 8 → s < 10 → (if e = 0 then f_X10_canMove q (nI s) (nI (rc + 1)) lo hi u else (f_X10_canMove q (nI s) (nI (rc + 1)) e e u && f_X10_canMove q (nI s) (nI (rc + 1)) lo hi u)) = Q (10 * rc + s)) : f_X10_fittingPairs q lo hi e u = some (nI (bcnt Q 80)) := by
  have hin : ∀ (K : Int32 → Int32 → Int32 → Int32 → Int32 → Option Int32) rc, rc < 8 → ∀ d s fuel, s + d = 10 → d < fuel → f_X10_fittingPairs_15 q K fuel lo hi e (nI (bcnt Q (10 * rc + s))) (nI (rc + 1)) (nI s) u = K lo hi e (nI (bcnt Q (10 * (rc + 1)))) (nI (rc + 2)) := by
    intro K rc hrc d
    induction d with
    | zero =>
      intro s fuel hs hf
      obtain ⟨m, rfl⟩ : ∃ m, fuel = m + 1 := ⟨fuel - 1, by omega⟩
      obtain rfl : s = 10 := by omega
      rw [f_X10_fittingPairs_15_s, if_pos (show (9 : Int32) < nI 10 by decide), nI_1, show 10 * rc + 10 = 10 * (rc + 1) by omega]
    | succ d ih =>
      intro s fuel hs hf
      obtain ⟨m, rfl⟩ : ∃ m, fuel = m + 1 := ⟨fuel - 1, by omega⟩
      have hs10 : s < 10 := by omega
      have h1 := hQ rc s hrc hs10
      have ih2 := ih (s + 1) m (by omega) (by omega)
      rw [show 10 * rc + (s + 1) = (10 * rc + s) + 1 by omega, bcnt_s, ← h1] at ih2
      rw [f_X10_fittingPairs_15_s, if_neg (show ¬ (9 : Int32) < nI s from nI_nlt (a := 9) (b := s) (by omega) (by decide)), zl, zl, nI_1, nI_1]
      by_cases he : e = 0
      · rw [if_pos he] at ih2 ⊢
        cases hc : f_X10_canMove q (nI s) (nI (rc + 1)) lo hi u with
        | false => rw [hc, if_neg Bool.false_ne_true] at ih2; rw [if_neg Bool.false_ne_true]; exact ih2
        | true => rw [hc, if_pos rfl] at ih2; rw [if_pos rfl]; exact ih2
      · rw [if_neg he] at ih2 ⊢
        cases hc0 : f_X10_canMove q (nI s) (nI (rc + 1)) e e u with
        | false => rw [hc0, Bool.false_and, if_neg Bool.false_ne_true] at ih2; rw [if_neg Bool.false_ne_true]; exact ih2
        | true =>
          rw [hc0, Bool.true_and] at ih2
          rw [if_pos rfl]
          cases hc : f_X10_canMove q (nI s) (nI (rc + 1)) lo hi u with
          | false => rw [hc, if_neg Bool.false_ne_true] at ih2; rw [if_neg Bool.false_ne_true]; exact ih2
          | true => rw [hc, if_pos rfl] at ih2; rw [if_pos rfl]; exact ih2
  have hout : ∀ d rc fuel, rc + d = 8 → d < fuel → f_X10_fittingPairs_5 q fuel lo hi e (nI (bcnt Q (10 * rc))) (nI (rc + 1)) u = some (nI (bcnt Q 80)) := by
    intro d
    induction d with
    | zero =>
      intro rc fuel hs hf
      obtain ⟨m, rfl⟩ : ∃ m, fuel = m + 1 := ⟨fuel - 1, by omega⟩
      obtain rfl : rc = 8 := by omega
      rw [f_X10_fittingPairs_5_s, if_pos (show (8 : Int32) < nI (8 + 1) by decide)]
    | succ d ih =>
      intro rc fuel hs hf
      obtain ⟨m, rfl⟩ : ∃ m, fuel = m + 1 := ⟨fuel - 1, by omega⟩
      rw [f_X10_fittingPairs_5_s, if_neg (show ¬ (8 : Int32) < nI (rc + 1) from nI_nlt (a := 8) (b := rc + 1) (by omega) (by decide))]
      exact (hin (fun k0 k1 k2 k3 k4 => f_X10_fittingPairs_5 q m k0 k1 k2 k3 k4 u) rc (by omega) 10 0 5000 rfl (by decide)).trans (ih (rc + 1) m (by omega) (by omega))
  rw [f_X10_fittingPairs_e]
  exact hout 8 0 5000 rfl (by decide)
/-- the least reach -/
def lrq (Q : Nat → Bool) : Nat → Nat → Int32
  | 0, _ => -1
  | d + 1, j => if Q j = true then nI (j / 10 + 1) else lrq Q d (j + 1)
theorem pc_lr {q : zq} {u : zU} {lo hi : Int32} {Q : Nat → Bool} (hQ : ∀ rc s, rc < 8 → s < 10 → f_X10_canMove q (nI s) (nI (rc + 1)) lo hi u = Q (10 * rc + s)) : f_X10_leastReach q lo hi u = some (lrq Q 80 0) := by
  have hin : ∀ (K : Int32 → Int32 → Int32 → Option Int32) rc, rc < 8 → K lo hi (nI (rc + 2)) = some (lrq Q (80 - 10 * (rc + 1)) (10 * (rc + 1))) → ∀ d s fuel, s + d = 10 → d < fuel → f_X10_leastReach_10 q K fuel lo hi (nI (rc + 1)) (nI s) u = some (lrq Q (80 - (10 * rc + s)) (10 * rc + s)) := by
    intro K rc hrc hK d
    induction d with
    | zero =>
      intro s fuel hs hf
      obtain ⟨m, rfl⟩ : ∃ m, fuel = m + 1 := ⟨fuel - 1, by omega⟩
      obtain rfl : s = 10 := by omega
      rw [f_X10_leastReach_10_s, if_pos (show (9 : Int32) < nI 10 by decide), nI_1, show 10 * rc + 10 = 10 * (rc + 1) by omega]
      exact hK
    | succ d ih =>
      intro s fuel hs hf
      obtain ⟨m, rfl⟩ : ∃ m, fuel = m + 1 := ⟨fuel - 1, by omega⟩
      have ih2 := ih (s + 1) m (by omega) (by omega)
      rw [f_X10_leastReach_10_s, if_neg (show ¬ (9 : Int32) < nI s from nI_nlt (a := 9) (b := s) (by omega) (by decide)), hQ rc s hrc (by omega), zl, nI_1, show 80 - (10 * rc + s) = (80 - (10 * rc + (s + 1))) + 1 by omega]
      show _ = some (if Q (10 * rc + s) = true then nI ((10 * rc + s) / 10 + 1) else lrq Q (80 - (10 * rc + (s + 1))) (10 * rc + s + 1))
      by_cases h : Q (10 * rc + s) = true
      · rw [if_pos h, if_pos h, show (10 * rc + s) / 10 = rc by omega]
      · rw [if_neg h, if_neg h]; exact ih2
  have hout : ∀ d rc fuel, rc + d = 8 → d < fuel → f_X10_leastReach_2 q fuel lo hi (nI (rc + 1)) u = some (lrq Q (80 - 10 * rc) (10 * rc)) := by
    intro d
    induction d with
    | zero =>
      intro rc fuel hs hf
      obtain ⟨m, rfl⟩ : ∃ m, fuel = m + 1 := ⟨fuel - 1, by omega⟩
      obtain rfl : rc = 8 := by omega
      rw [f_X10_leastReach_2_s, if_pos (show (8 : Int32) < nI (8 + 1) by decide)]
      rfl
    | succ d ih =>
      intro rc fuel hs hf
      obtain ⟨m, rfl⟩ : ∃ m, fuel = m + 1 := ⟨fuel - 1, by omega⟩
      rw [f_X10_leastReach_2_s, if_neg (show ¬ (8 : Int32) < nI (rc + 1) from nI_nlt (a := 8) (b := rc + 1) (by omega) (by decide))]
      exact hin (fun k0 k1 k2 => f_X10_leastReach_2 q m k0 k1 k2 u) rc (by omega) (ih (rc + 1) m (by omega) (by omega)) 10 0 5000 rfl (by decide)
  rw [f_X10_leastReach_e]
  exact hout 8 0 5000 rfl (by decide)
theorem pr_m45 {r : zU} {Q : Nat → Bool} (h9 : ∀ k, k < 80 → r 9 k = bI (Q k)) : ∀ d j fuel, j + d = 80 → d < fuel → f_X11_moves_45 fuel (nI j) r = some (lrq Q d j, r) := by
  intro d
  induction d with
  | zero =>
    intro j fuel hs hf
    obtain ⟨m, rfl⟩ : ∃ m, fuel = m + 1 := ⟨fuel - 1, by omega⟩
    obtain rfl : j = 80 := by omega
    rw [f_X11_moves_45_s, if_pos (show (80 : Int32) ≤ nI 80 by decide)]
    rfl
  | succ d ih =>
    intro j fuel hs hf
    obtain ⟨m, rfl⟩ : ∃ m, fuel = m + 1 := ⟨fuel - 1, by omega⟩
    have hj : j < 80 := by omega
    rw [f_X11_moves_45_s, if_neg (show ¬ (80 : Int32) ≤ nI j from nI_ge (b := 80) hj (by decide)), if_pos (pu_in hj (by decide)), zl, nI_clamp (by omega), h9 j hj, (dm10 j hj).2, nI_1, nI_1]
    show _ = some (if Q j = true then nI (j / 10 + 1) else lrq Q d (j + 1), r)
    cases hq : Q j with
    | false => rw [if_pos (show bI false = 0 from rfl), if_neg Bool.false_ne_true]; exact ih (j + 1) m (by omega) (by omega)
    | true => rw [if_neg (show ¬ bI true = 0 by decide), if_pos rfl]
theorem p_heard {q : zq} {u r : zU} (hT : TPe u r) : (∃ n r', n ≤ 40 ∧ f_X10_needMoves q u = some (.inr (), q, u) ∧ f_X7_least 31 u = some (sLo (r 5) n) ∧ f_X7_greatest u = some (sHi (r 5) n) ∧ f_X11_heard r = some (nI (bcnt (cBe (r 5) n) 80), r') ∧ E9 (z_up r 0 8 0) r' ∧ ∀ k, k < 80 → r' 9 k = bI (cBe (r 5) n k)) ∨ (f_X10_needMoves q u = some (.inl eIA, q, z_up u 1 1 0) ∧ f_X11_heard r = some (-1, z_up r 0 8 0)) := by
  obtain ⟨n, ⟨hn, -, -⟩, e1, e2, hb⟩ := hT
  have hb1 : ∀ k, k < 400 → u 2 k = (z_up r 0 8 0) 5 k := fun k hk => (hb k hk).1
  have h40 : ((40 : Int32) < nI n) ↔ 40 < n := ⟨fun h => Classical.byContradiction (fun hc => nI_nlt (b := n) (a := 40) (by omega) (by decide) h), fun h => nI_lt (a := 40) h (by omega)⟩
  have hstart : ∃ b : Bool, (b = true → n ≤ 40) ∧ f_X10_needMoves q u = f_X10_needMoves_20 q 5000 (bI b) 0 u ∧ f_X11_heard r = f_X11_heard_24 5000 (nI n) (bI b) 0 (z_up r 0 8 0) := by
    by_cases h : 40 < n
    · refine ⟨false, fun e => absurd e (by decide), ?_, ?_⟩
      · rw [f_X10_needMoves_e, e1, if_pos (h40.mpr h)]; rfl
      · rw [f_X11_heard_e, zl, zl, e2, if_pos (h40.mpr h)]; rfl
    · refine ⟨true, fun _ => by omega, ?_, ?_⟩
      · rw [f_X10_needMoves_e, e1, if_neg (fun e => h (h40.mp e))]; rfl
      · rw [f_X11_heard_e, zl, zl, e2, if_neg (fun e => h (h40.mp e))]; rfl
  obtain ⟨b, hb0, s1, s2⟩ := hstart
  obtain ⟨b2, h2, y1, y2⟩ := p_tape (q := q) (u := u) (r := z_up r 0 8 0) hn e1 hb1 n 0 5000 5000 b (by omega) (by omega) (by omega)
  have y1' : f_X10_needMoves q u = tEnd q b2 u := s1.trans y1
  have y2' : f_X11_heard r = (if b2 = true then f_X11_heard_63 5000 (nI n) 0 0 (z_up r 0 8 0) else some (-1, z_up r 0 8 0)) := s2.trans y2
  cases b2 with
  | false =>
    right
    exact ⟨y1', by rw [y2', if_neg Bool.false_ne_true]⟩
  | true =>
    left
    have hbt : b = true := by cases b with | true => rfl | false => exact absurd (h2 rfl) (by decide)
    have hn40 := hb0 hbt
    obtain ⟨r', z1, z2, z3⟩ := pr_h63 (r := z_up r 0 8 0) hn 80 0 5000 (z_up r 0 8 0) rfl (by decide) (fun k _ => rfl) (fun k hk => absurd hk (by omega))
    refine ⟨n, r', hn40, y1', pc_least hn e1 (fun k hk => (hb k hk).1), pc_great hn e1 (fun k hk => (hb k hk).1), ?_, z2, z3⟩
    rw [y2', if_pos rfl]
    exact z1
theorem RR.e9 {q : zq} {u r r' : zU} (h : RR q u r) (hE : E9 r r') : RR q u r' := by
  obtain ⟨T, T', hb⟩ := h
  exact ⟨T, T', hb.tmp (w := 6) (Or.inl rfl) Fr.rf hb.1.1.1 hb.1.1.2.2.1 (hE 1 (by decide)) (hE 2 (by decide)) (hE 4 (by decide)) (hE 5 (by decide)) (by rw [hE 0 (by decide)]) (by rw [hE 0 (by decide)]) (by rw [hE 0 (by decide)]) (by rw [hE 0 (by decide)])⟩
theorem s_moves {q : zq} {u r : zU} (h : RR q u r) (a : Bool) : ∃ o u' x r', f_X10_moves q a u = some (o, q, u') ∧ f_X11_moves a r = some (x, r') ∧ RR q u' r' ∧ ANS [(eIA, 1)] o x (r' 0 0) := by
  have h0 := h.len (n := 0) (by decide)
  rcases p_heard (q := q) h.tp with ⟨n, r1, hn, a1, a2, a3, a4, a5, a6⟩ | ⟨a1, a3⟩
  · have hle := bcnt_le (cBe (r 5) n) 80
    have h9 : RR q (z_up u 1 1 0) (z_up r1 0 0 0) := (h0.e9 a5).t 0
    cases a with
    | true =>
      have hc : f_X10_moves q true u = some (.inr (lrq (cBe (r 5) n) 80 0), q, z_up u 1 1 0) := by
        rw [f_X10_moves_e, a1, z_bxr, a2, Option.bind_some, a3, Option.bind_some, zl, if_pos rfl, pc_lr (Q := cBe (r 5) n) (fun rc s h1 h2 => pc_can h2 h1), Option.bind_some]
      have hr : f_X11_moves true r = some (lrq (cBe (r 5) n) 80 0, z_up r1 0 0 0) := by
        rw [f_X11_moves_e, a4, z_b2s, if_neg (pu_m1 (by omega)), zl, t00, if_neg (show ¬ (0 : Int32) < 0 by decide), if_pos rfl]
        exact pr_m45 (r := z_up r1 0 0 0) (Q := cBe (r 5) n) a6 80 0 5000 rfl (by decide)
      exact ⟨_, _, _, _, hc, hr, h9, ⟨t00 _ _, rfl⟩⟩
    | false =>
      have hc : f_X10_moves q false u = some (.inr (nI (bcnt (cBe (r 5) n) 80)), q, z_up u 1 1 0) := by
        rw [f_X10_moves_e, a1, z_bxr, a2, Option.bind_some, a3, Option.bind_some, zl, if_neg Bool.false_ne_true, pc_fit (Q := cBe (r 5) n) (fun rc s h1 h2 => by rw [if_pos rfl]; exact pc_can h2 h1), Option.bind_some]
      have hr : f_X11_moves false r = some (nI (bcnt (cBe (r 5) n) 80), z_up r1 0 0 0) := by
        rw [f_X11_moves_e, a4, z_b2s, if_neg (pu_m1 (by omega)), zl, t00, if_neg (show ¬ (0 : Int32) < 0 by decide), if_neg Bool.false_ne_true, if_pos (by decide)]
      exact ⟨_, _, _, _, hc, hr, h9, ⟨t00 _ _, rfl⟩⟩
  · have hc : f_X10_moves q a u = some (.inl eIA, q, z_up u 1 1 0) := by rw [f_X10_moves_e, a1, z_bxl]
    have hr : f_X11_moves a r = some (0, z_up (z_up r 0 8 0) 0 0 1) := by rw [f_X11_moves_e, a3, z_b2s, if_pos rfl, zl, t00, if_pos (show (0 : Int32) < 1 by decide), if_neg (show ¬ (1 : Int32) ≤ 0 by decide)]
    exact ⟨_, _, _, _, hc, hr, h0.t 1, by simp [ANS, t00]⟩
