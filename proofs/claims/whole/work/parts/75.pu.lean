/-! PURE, 26: round, lean, reign -/
def bal (P : Nat → Bool) : Nat → Nat → Bool
  | 0, _ => true
  | d + 1, k => P k && bal P d (k + 1)
theorem pc_sits {u : zU} {v v0 : Nat → Int32} (L L2 : Nat → Nat) (hR : RW u 17 v) (hV : IV v) (hR0 : RW u 6 v0) : f_X9_sitsLike 17 L 6 L2 u = some (decide (v 4 = v0 4) && bal (fun k => decide (v (25 + 4 * k) = v0 (25 + 4 * k))) (rN v) 0) := by
  have h8 := hV.n8
  have hm : ∀ d k fuel (acc : Bool), k + d = rN v → d < fuel → f_X9_sitsLike_19 17 L 6 L2 fuel (bI acc) (nI k) u = some (acc && bal (fun k => decide (v (25 + 4 * k) = v0 (25 + 4 * k))) d k) := by
    intro d
    induction d with
    | zero =>
      intro k fuel acc hk hf
      obtain ⟨m, rfl⟩ : ∃ m, fuel = m + 1 := ⟨fuel - 1, by omega⟩
      obtain rfl : k = rN v := by omega
      rw [f_X9_sitsLike_19_s, hR.s8, hV.n, if_pos (nI_le (Nat.le_refl _) (by omega))]
      cases acc <;> rfl
    | succ d ih =>
      intro k fuel acc hk hf
      obtain ⟨m, rfl⟩ : ∃ m, fuel = m + 1 := ⟨fuel - 1, by omega⟩
      have hk8 : k < 8 := by omega
      rw [f_X9_sitsLike_19_s, hR.s8, hV.n, if_neg (nI_ge (by omega) (by omega)), nI_1]
      show _ = some (acc && (decide (v (25 + 4 * k) = v0 (25 + 4 * k)) && bal _ d (k + 1)))
      cases acc with
      | false =>
        rw [if_pos (show bI false = 0 from rfl)]
        exact ih (k + 1) m false (by omega) (by omega)
      | true =>
        rw [if_neg (show ¬ bI true = 0 by decide), if_pos (pu_in hk8 (by decide)), zl, if_pos (pu_in hk8 (by decide)), zl, nI_clamp (by omega), show u (17 + 1) k = v (25 + 4 * k) from hR.pl hk8, show u (6 + 1) k = v0 (25 + 4 * k) from hR0.pl hk8]
        by_cases hc : v (25 + 4 * k) = v0 (25 + 4 * k)
        · rw [if_pos hc, decide_eq_true hc]
          exact ih (k + 1) m true (by omega) (by omega)
        · rw [if_neg hc, decide_eq_false hc]
          exact ih (k + 1) m false (by omega) (by omega)
  rw [f_X9_sitsLike_e, hR.s14, hR0.s14]
  by_cases hc : v 4 = v0 4
  · rw [if_pos hc, decide_eq_true hc]
    exact hm (rN v) 0 5000 true (by omega) (by omega)
  · rw [if_neg hc, decide_eq_false hc]
    exact hm (rN v) 0 5000 false (by omega) (by omega)
theorem pr_same {r : zU} {v0 : Nat → Int32} (hV : IV (r 1)) (h3 : ∀ j, j < 305 → r 3 j = v0 j) : f_X11_isSame r = some (decide (r 1 4 = v0 4) && bal (fun k => decide (r 1 (25 + 4 * k) = v0 (25 + 4 * k))) (rN (r 1)) 0) := by
  have h8 := hV.n8
  have hm : ∀ d k fuel, k + d = rN (r 1) → d < fuel → f_X11_isSame_19 fuel (nI k) r = some (bal (fun k => decide (r 1 (25 + 4 * k) = v0 (25 + 4 * k))) d k) := by
    intro d
    induction d with
    | zero =>
      intro k fuel hk hf
      obtain ⟨m, rfl⟩ : ∃ m, fuel = m + 1 := ⟨fuel - 1, by omega⟩
      obtain rfl : k = rN (r 1) := by omega
      rw [f_X11_isSame_19_s, hV.n, if_pos (nI_le (Nat.le_refl _) (by omega))]
      rfl
    | succ d ih =>
      intro k fuel hk hf
      obtain ⟨m, rfl⟩ : ∃ m, fuel = m + 1 := ⟨fuel - 1, by omega⟩
      have e : ((25 : Int32) + (4 : Int32) * nI k) + 0 = nI (25 + 4 * k) := by rw [show (25 : Int32) = nI 25 from rfl, show (4 : Int32) = nI 4 from rfl, pu_mul, nI_add, Int32.add_zero]
      rw [f_X11_isSame_19_s, hV.n, if_neg (nI_ge (by omega) (by omega)), pr_of0 (by omega), Option.bind_some, e, if_pos (pu_in (by omega) (by decide)), zl, nI_clamp (by omega), h3 _ (by omega), nI_1]
      show _ = some (decide (r 1 (25 + 4 * k) = v0 (25 + 4 * k)) && bal _ d (k + 1))
      by_cases hc : r 1 (25 + 4 * k) = v0 (25 + 4 * k)
      · rw [if_pos hc, decide_eq_true hc, Bool.true_and]
        exact ih (k + 1) m (by omega) (by omega)
      · rw [if_neg hc, decide_eq_false hc, Bool.false_and]
  rw [f_X11_isSame_e, h3 4 (by decide)]
  by_cases hc : r 1 4 = v0 4
  · rw [if_pos hc, decide_eq_true hc, Bool.true_and]
    exact hm (rN (r 1)) 0 5000 (by omega) (by omega)
  · rw [if_neg hc, decide_eq_false hc, Bool.false_and]
theorem SPx.main {q : zq} {u0 r0 u r : zU} {T T' : zT} (h0 : RRb q u0 r0 T T') (hF : Fr 17 (q 0) u0 u) : RW u 6 (r0 1) := h0.1.1.1.fr (fun x b1 b2 => by
  refine hF x (by omega) (fun e => ?_)
  have h6 := h0.1.2.2.2.1.ap (i := 0) (by decide) 7 (by decide) (by decide)
  rw [← e] at h6
  have w0 : wr 0 = 6 := rfl
  rw [w0] at h6
  omega)
theorem p_round {q : zq} {u0 r0 : zU} {T T' : zT} (h0 : RRb q u0 r0 T T') {e : Nat} (he8 : e < 8) : ∀ d n fuel u r, n + d = 65 → d + 2 < fuel → SPx q T u0 r0 u r → z_rem (nI e) (r 1 7) = nI e → ∃ y u' r', f_X10_round_18 (zup q 1 (q 0)) fuel (nI e) (nI n) u = some (.inr y, zup q 1 (q 0), u') ∧ f_X11_round_34 fuel (nI e) (-1) (nI n) r = some (y, r') ∧ RRb (zup q 1 (q 0)) u' r' T T' ∧ r' 0 0 = r0 0 0 := by
  have hL := h0.1.2.2.2.1
  have hB := h0.1.2.1
  have e1 : zup q 1 (q 0) 1 = q 0 := zup_e
  have e0 : zup q 1 (q 0) 0 = q 0 := zup_o (by decide)
  intro d
  induction d with
  | zero =>
    intro n fuel u r hn hf s he
    obtain ⟨m, rfl⟩ : ∃ m, fuel = m + 1 := ⟨fuel - 1, by omega⟩
    obtain rfl : n = 65 := by omega
    obtain ⟨r', g1, g2, g3, -⟩ := SPx.fin h0 s
    rw [f_X10_round_18_s, f_X11_round_34_s, if_pos (show (64 : Int32) < nI 65 by decide), if_pos (show (64 : Int32) < nI 65 by decide), g1, Option.bind_some]
    exact ⟨_, _, _, rfl, rfl, g2, g3⟩
  | succ d ih =>
    intro n fuel u r hn hf s he
    obtain ⟨m, rfl⟩ : ∃ m, fuel = m + 1 := ⟨fuel - 1, by omega⟩
    have hlt : ¬ (64 : Int32) < nI n := nI_nlt (a := 64) (by omega) (by decide)
    obtain ⟨u', y, r', t1, t2, t3, t4⟩ := s.told1 hL hB he8 he
    have hsit := pc_sits (q 0) (q 0) t3.1.1 t3.1.2.1 (SPx.main (r := r') h0 t3.2.1)
    have hsam := pr_same (v0 := r0 1) t3.1.2.1 t3.2.2.2.2.2.2.2.2.2.2.1
    rw [f_X10_round_18_s, f_X11_round_34_s, if_neg hlt, if_neg hlt, if_pos rfl, e1, e0, t1, Option.bind_some, t2, z_b2s, hsit, hsam, Option.bind_some, Option.bind_some]
    by_cases hc : (decide (r' 1 4 = r0 1 4) && bal (fun k => decide (r' 1 (25 + 4 * k) = r0 1 (25 + 4 * k))) (rN (r' 1)) 0) = true
    · rw [if_pos hc, if_pos hc]
      obtain ⟨m', rfl⟩ : ∃ m', m = m' + 1 := ⟨m - 1, by omega⟩
      obtain ⟨r2, g1, g2, g3, -⟩ := SPx.fin h0 t3
      refine ⟨nI n, u', r2, rfl, ?_, g2, g3⟩
      rw [f_X11_round_34_s, g1, Option.bind_some, if_neg (show ¬ nI n = -1 from pu_m1 (by omega))]
      split <;> rfl
    · rw [if_neg hc, if_neg hc, nI_1]
      exact ih (n + 1) m u' r' (by omega) (by omega) t3 t4
theorem s_round {q : zq} {u r : zU} (h : RR q u r) (a : Int32) : ∃ o q' u' x r', f_X10_round q a u = some (o, q', u') ∧ f_X11_round a r = some (x, r') ∧ RR q' u' r' ∧ ANS [(eIA, 1)] o x (r' 0 0) := by
  rcases need_d (q := q) h.rw h.iv a r rfl with ⟨e, he8, f0, f1, f2, f3⟩ | ⟨f2, f3⟩
  · obtain ⟨T, T', hb⟩ := h.t 0
    obtain ⟨r1, g1, g2, g3⟩ := SPx.start hb (q 1)
    obtain ⟨y, u', r', y1, y2, y3, y4⟩ := p_round hb (e := e) he8 64 1 5000 _ r1 rfl (by decide) g3 (by rw [g2]; exact f1)
    have hc : f_X10_round q a u = some (.inr y, zup q 1 (q 0), u') := by rw [f_X10_round_e, f2, z_bxr, zl, zl, f0]; exact y1
    have hr : f_X11_round a r = some (y, r') := by rw [f_X11_round_e, zl, f3, if_pos rfl, zl, t00, if_pos (by decide), g1, Option.bind_some, f0]; exact y2
    exact ⟨_, _, _, _, _, hc, hr, ⟨T, T', y3⟩, ⟨y4, rfl⟩⟩
  · have hc : f_X10_round q a u = some (.inl eIA, q, u) := by rw [f_X10_round_e, f2, z_bxl]
    have hr : f_X11_round a r = some (0, z_up r 0 0 1) := by rw [f_X11_round_e, zl, f3, if_neg Bool.false_ne_true, zl, t00, if_neg (by decide)]
    exact ⟨_, _, _, _, _, hc, hr, h.t 1, by simp [ANS, t00]⟩
/-! leaning -/
def lev (p : Nat) : Int32 := if p = 0 ∨ p = 4 then 0 else if p < 4 then 1 else -1
theorem lev0 : ∀ p, p < 8 → (if nI p &&& 3 = 0 then (0 : Int32) else if (4 : Int32) ≤ nI p then -1 else 1) = lev p := by decide +kernel
theorem pc_lever {u : zU} {w : Nat} {v : Nat → Int32} (hR : RW u w v) (hV : IV v) (L : Nat → Nat) {c : Nat} (hc : c < 8) : f_X9_lever w L (nI c) u = lev (pls v c) := by
  rw [f_X9_lever_e, pc_places hR hV L hc, zl, zl]
  exact lev0 _ (pls_lt v c)
/-- what those of P lean -/
def sLe (v : Nat → Int32) (P : Nat → Bool) (n : Nat) : Int32 := zfo (fun k s => if P k = true then (if v (25 + 4 * k) = -1 then s else s + lev (pls v (v (25 + 4 * k)).toNatClampNeg) * v (26 + 4 * k)) else s) n 0
theorem sLe_ext {v : Nat → Int32} {P P' : Nat → Bool} {n : Nat} (h : ∀ r, r < n → P r = P' r) : sLe v P n = sLe v P' n := zfo_ext n (fun k hk => by rw [h k hk])
theorem isOf0c : ∀ m, m < 256 → ∀ k, k < 8 → ((((nI m >>> (nI k &&& 31)) &&& (1 : Int32)) = 0) ↔ m.testBit k = false) := by
  have h : ∀ m, m < 256 → ∀ k, k < 8 → (decide (((nI m >>> (nI k &&& 31)) &&& (1 : Int32)) = 0)) = !m.testBit k := by decide +kernel
  intro m hm k hk
  have := h m hm k hk
  constructor
  · intro e
    rw [decide_eq_true e] at this
    simpa using this.symm
  · intro e
    rw [e] at this
    exact of_decide_eq_true this
theorem pc_leanW {q : zq} {u : zU} {v : Nat → Int32} (hR : RW u 6 v) (hV : IV v) {m : Nat} (hm : m < 256) : f_X10_leanWithout q (nI m) u = some (sLe v (fun k => !m.testBit k) (rN v)) := by
  have h8 := hV.n8
  rw [f_X10_leanWithout_e]
  refine pu_loop (fun n s x => f_X10_leanWithout_4 q n (nI m) s x u) (rN v) _ some (fun n k s hk => ?_) (fun n s => ?_) 5000 (by omega)
  · show f_X10_leanWithout_4 q (n + 1) (nI m) s (nI k) u = _
    have hk8 : k < 8 := by omega
    rw [f_X10_leanWithout_4_s, hR.s8, hV.n, if_neg (nI_ge hk (by omega)), if_pos (pu_in hk8 (by decide)), zl, nI_clamp (by omega), hR.a7 hk8, nI_1]
    rcases hV.pl hk with hw | ⟨c, hc, hw⟩
    · rw [if_pos hw, if_pos hw]
      split <;> rfl
    · have hne : v (25 + 4 * k) ≠ -1 := by rw [hw]; exact pu_m1 (by omega)
      rw [if_neg hne, if_neg hne]
      by_cases hb : m.testBit k = false
      · rw [if_pos ((isOf0c m hm k hk8).mpr hb), if_pos (pu_in hk8 (by decide)), zl, hw, pc_lever hR hV (q 0) hc, zl, if_pos (pu_in hk8 (by decide)), zl, zl, hR.a8 hk8, nI_clamp (by omega), if_pos (show (!m.testBit k) = true by rw [hb]; rfl)]
      · have hb2 : m.testBit k = true := by revert hb; cases m.testBit k <;> simp
        rw [if_neg (fun e => hb ((isOf0c m hm k hk8).mp e)), if_neg (show ¬ (!m.testBit k) = true by rw [hb2]; decide)]
  · show f_X10_leanWithout_4 q (n + 1) (nI m) s (nI (rN v)) u = _
    rw [f_X10_leanWithout_4_s, hR.s8, hV.n, if_pos (nI_le (Nat.le_refl _) (by omega))]
theorem lev1 : ∀ p, p < 8 → ((decide ((1 : Int32) ≤ nI p) && decide (nI p ≤ 3)) = true → lev p = 1) ∧ ((decide ((1 : Int32) ≤ nI p) && decide (nI p ≤ 3)) = false → nI p ≤ 4 → lev p = 0) ∧ ((decide ((1 : Int32) ≤ nI p) && decide (nI p ≤ 3)) = false → ¬ nI p ≤ 4 → lev p = -1) := by decide +kernel
theorem pr_leanBy {u : zU} (hV : IV (u 1)) {m : Nat} (hm : m < 256) : f_X11_leanBy (nI m) u = some (sLe (u 1) (fun k => m.testBit k) (rN (u 1))) := by
  have h8 := hV.n8
  rw [f_X11_leanBy_e]
  refine pu_loop (fun n s x => f_X11_leanBy_4 n (nI m) s x u) (rN (u 1)) _ some (fun n k s hk => ?_) (fun n s => ?_) 5000 (by omega)
  · show f_X11_leanBy_4 (n + 1) (nI m) s (nI k) u = _
    have hk8 : k < 8 := by omega
    rw [f_X11_leanBy_4_s, hV.n, if_neg (nI_ge hk (by omega)), pu_isOf hm hk8, zl, nI_1]
    by_cases hb : m.testBit k = true
    · rw [if_pos hb, if_pos hb, pr_waits hk8, Option.bind_some]
      rcases hV.pl hk with hw | ⟨c, hc, hw⟩
      · rw [decide_eq_true hw, if_pos rfl, if_pos hw]
      · have hne : u 1 (25 + 4 * k) ≠ -1 := by rw [hw]; exact pu_m1 (by omega)
        rw [decide_eq_false hne, if_neg Bool.false_ne_true, if_neg hne, pr_of0 hk8, Option.bind_some, hw, pr_places hV hc, zl, pr_isIn, zl, nI_clamp (by omega)]
        obtain ⟨l1, l2, l3⟩ := lev1 _ (pls_lt (u 1) c)
        by_cases hi : (decide ((1 : Int32) ≤ nI (pls (u 1) c)) && decide (nI (pls (u 1) c) ≤ 3)) = true
        · rw [if_pos hi, pr_of1 hk8, Option.bind_some, zl, l1 hi, Int32.one_mul]
        · have hi2 : (decide ((1 : Int32) ≤ nI (pls (u 1) c)) && decide (nI (pls (u 1) c) ≤ 3)) = false := by revert hi; cases (decide ((1 : Int32) ≤ nI (pls (u 1) c)) && decide (nI (pls (u 1) c) ≤ 3)) <;> simp
          rw [if_neg hi]
          by_cases h4 : nI (pls (u 1) c) ≤ 4
          · rw [if_pos h4, zl, l2 hi2 h4, Int32.zero_mul]
          · rw [if_neg h4, pr_of1 hk8, Option.bind_some, zl, l3 hi2 h4, Int32.neg_mul, Int32.one_mul]
    · rw [if_neg hb, if_neg hb]
  · show f_X11_leanBy_4 (n + 1) (nI m) s (nI (rN (u 1))) u = _
    rw [f_X11_leanBy_4_s, hV.n, if_pos (nI_le (Nat.le_refl _) (by omega))]
theorem s_lean {q : zq} {u r : zU} (h : RR q u r) : ∃ x, f_X10_lean q u = some x ∧ f_X11_lean r = some (x, z_up r 0 0 0) ∧ RR q u (z_up r 0 0 0) := by
  have hV := h.iv
  refine ⟨sLe (r 1) (fun _ => true) (rN (r 1)), ?_, ?_, h.t 0⟩
  · rw [f_X10_lean_e, show (0 : Int32) = nI 0 from rfl, pc_leanW h.rw hV (by decide), Option.bind_some, sLe_ext (P' := fun _ => true) (fun k hk => by simp)]
  · have h255 : ∀ k, k < 8 → Nat.testBit 255 k = true := by decide
    rw [f_X11_lean_e, zl, show (255 : Int32) = nI 255 from rfl, pr_leanBy (u := z_up r 0 0 0) hV (by decide), Option.bind_some, t01, sLe_ext (P' := fun _ => true) (fun k hk => h255 k (by have := hV.n8; omega))]
