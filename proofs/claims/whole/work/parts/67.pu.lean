/-! PURE, 18: rider, cradle -/
def PLv (v : Nat → Int32) (x : Nat) : Nat → Bool := fun o => !decide (o = x) && (!decide (v (25 + 4 * o) = -1) && (!decide (v (25 + 4 * x) = -1) && decide (hgt (pls v (v (25 + 4 * o)).toNatClampNeg) = hgt (pls v (v (25 + 4 * x)).toNatClampNeg))))
theorem hgt_lt (v : Nat → Int32) (c : Nat) : hgt (pls v c) < 8 := by
  have := pls_lt v c
  unfold hgt
  split <;> omega
theorem bset_no {P : Nat → Bool} : ∀ N, (∀ k, k < N → P k = false) → bset P N = 0
  | 0, _ => rfl
  | N + 1, h => by rw [bset_s, h N (by omega), if_neg Bool.false_ne_true]; exact bset_no N (fun k hk => h k (by omega))
theorem pc_level {q : zq} {u : zU} {v : Nat → Int32} (hR : RW u 6 v) (hV : IV v) {x : Nat} (hx : x < rN v) : f_X10_levelWith q (nI x) u = some (nI (bset (PLv v x) (rN v))) := by
  have h8 := hV.n8
  rw [f_X10_levelWith_e, if_pos (pu_in (show x < 8 by omega) (by decide)), zl, nI_clamp (by omega), hR.a7 (by omega)]
  rcases hV.pl hx with hw | ⟨c, hc, hw⟩
  · rw [hw, f_X10_levelWith_15_s q _ (nI x), if_pos rfl, bset_no (rN v) (fun k hk => by unfold PLv; rw [decide_eq_true hw]; simp)]
    rfl
  · have hm : nI c ≠ -1 := pu_m1 (by omega)
    rw [hw]
    refine pu_bset (fun n s y => f_X10_levelWith_15 q n (nI x) (nI c) s y u) (rN v) (PLv v x) some h8 (fun n k s hk => ?_) (fun n s => ?_) 5000 (by omega)
    · show f_X10_levelWith_15 q (n + 1) (nI x) (nI c) s (nI k) u = _
      rw [f_X10_levelWith_15_s, if_neg hm, hR.s8, hV.n, if_neg (nI_ge hk (by omega)), if_pos (pu_in (show k < 8 by omega) (by decide)), zl, nI_clamp (by omega), hR.a7 (by omega), nI_1]
      unfold PLv
      rw [hw, decide_eq_false hm]
      by_cases hkx : k = x
      · rw [if_pos (by rw [hkx]), decide_eq_true hkx]; rfl
      · rw [if_neg (fun e => hkx ((nI_eq (by omega) (by omega)).mp e)), decide_eq_false hkx]
        rcases hV.pl hk with hw2 | ⟨d, hd, hw2⟩
        · rw [if_pos hw2, decide_eq_true hw2]; rfl
        · have hm2 : nI d ≠ -1 := pu_m1 (by omega)
          rw [hw2, if_neg hm2, decide_eq_false hm2, pc_height hR hV (q 0) hd, pc_height hR hV (q 0) hc, zl, zl, nI_clamp (by omega), nI_clamp (by omega)]
          have l1 := hgt_lt v d
          have l2 := hgt_lt v c
          by_cases he : hgt (pls v d) = hgt (pls v c)
          · rw [if_pos (by rw [he]), zl, decide_eq_true he]; rfl
          · rw [if_neg (fun e => he ((nI_eq (by omega) (by omega)).mp e)), decide_eq_false he]; rfl
    · show f_X10_levelWith_15 q (n + 1) (nI x) (nI c) s (nI (rN v)) u = _
      rw [f_X10_levelWith_15_s, if_neg hm, hR.s8, hV.n, if_pos (nI_le (Nat.le_refl _) (by omega))]
theorem pr_level {u : zU} (hV : IV (u 1)) {x : Nat} (hx : x < rN (u 1)) : f_X11_rider_126 5000 (nI x) 0 0 u = some (nI (bset (PLv (u 1) x) (rN (u 1))), u) := by
  have h8 := hV.n8
  refine pu_bset (fun n s y => f_X11_rider_126 n (nI x) s y u) (rN (u 1)) (PLv (u 1) x) (fun s => some (s, u)) h8 (fun n k s hk => ?_) (fun n s => ?_) 5000 (by omega)
  · show f_X11_rider_126 (n + 1) (nI x) s (nI k) u = _
    rw [f_X11_rider_126_s, hV.n, if_neg (nI_ge hk (by omega)), nI_1]
    unfold PLv
    by_cases hkx : k = x
    · rw [if_pos (by rw [hkx]), zl, Int32.or_zero, decide_eq_true hkx]; rfl
    · rw [if_neg (fun e => hkx ((nI_eq (by omega) (by omega)).mp e)), decide_eq_false hkx, pr_waits (by omega), Option.bind_some, pr_waits (by omega)]
      rcases hV.pl hk with hw2 | ⟨d, hd, hw2⟩
      · rw [decide_eq_true hw2, if_pos rfl, zl, Int32.or_zero]; rfl
      · have hm2 : nI d ≠ -1 := pu_m1 (by omega)
        rw [hw2, decide_eq_false hm2, if_neg Bool.false_ne_true, Option.bind_some]
        rcases hV.pl hx with hw | ⟨c, hc, hw⟩
        · rw [decide_eq_true hw, if_pos rfl, zl, Int32.or_zero]; rfl
        · have hm : nI c ≠ -1 := pu_m1 (by omega)
          rw [hw, decide_eq_false hm, if_neg Bool.false_ne_true, pr_of0 (by omega), Option.bind_some, pr_of0 (by omega), hw2, hw, pr_height hV hd, zl, Option.bind_some, pr_height hV hc, zl, nI_clamp (by omega), nI_clamp (by omega)]
          have l1 := hgt_lt (u 1) d
          have l2 := hgt_lt (u 1) c
          by_cases he : hgt (pls (u 1) d) = hgt (pls (u 1) c)
          · rw [if_pos (by rw [he]), zl, decide_eq_true he]; rfl
          · rw [if_neg (fun e => he ((nI_eq (by omega) (by omega)).mp e)), zl, Int32.or_zero, decide_eq_false he]; rfl
  · show f_X11_rider_126 (n + 1) (nI x) s (nI (rN (u 1))) u = _
    rw [f_X11_rider_126_s, hV.n, if_pos (nI_le (Nat.le_refl _) (by omega))]
theorem isIn_t {a m : Int32} {n : Nat} (hm : m = nI n) (hn : n < 100) (w : zU) : (∃ j, j ≤ n ∧ a = nI j ∧ f_X11_isIn a 0 m w = true) ∨ ((∀ j, j ≤ n → a ≠ nI j) ∧ f_X11_isIn a 0 m w = false) := by
  rw [pr_isIn, hm]
  by_cases h0 : a < 0
  · right
    refine ⟨fun j hj e => ?_, by rw [decide_eq_false (show ¬ (0 : Int32) ≤ a by lia)]; rfl⟩
    rw [e] at h0; exact nI_pos (by omega) h0
  · obtain ⟨x, hx, rfl⟩ := nI_of h0
    rw [decide_eq_true (show (0 : Int32) ≤ nI x by lia), Bool.true_and]
    by_cases h1 : x ≤ n
    · left; exact ⟨x, h1, rfl, decide_eq_true (nI_le h1 (by omega))⟩
    · right
      refine ⟨fun j hj e => ?_, decide_eq_false (nI_ge (by omega) hx)⟩
      rw [nI_eq hx (by omega)] at e; omega
theorem s_rider {q : zq} {u r : zU} (h : RR q u r) (a c : Int32) : ∃ o u' x r', f_X10_rider q a c u = some (o, q, u') ∧ f_X11_rider a c r = some (x, r') ∧ RR q u' r' ∧ ANS [("java/lang/IndexOutOfBoundsException", 1), ("java/util/NoSuchElementException", 2)] o x (r' 0 0) := by
  have hV := h.iv
  have hR := h.rw
  have h8 := hV.n8
  rw [f_X10_rider_e, f_X11_rider_e, zl]
  rcases need_r (q := q) hR hV a r rfl with ⟨x, hx, e1, e2, e3⟩ | ⟨e2, e3⟩
  · have hx8 : x < 8 := by omega
    rw [e2, e3, z_bxr, if_pos rfl, e1, if_pos (pu_in hx8 (by decide)), nI_clamp (show x < 2 ^ 31 by omega), hR.a7 hx8, zl (r 1 (25 + 4 * x))]
    rcases isIn_t (a := c) (m := 7) (n := 7) rfl (by decide) r with ⟨j, hj, rfl, hin⟩ | ⟨hne, hin⟩
    · rw [hin, zl true, if_pos rfl, zl (z_up r 0 0 0), t00, if_pos (show (0 : Int32) ≤ 0 by decide)]
      have h0 := h.t 0
      have hV0 : IV ((z_up r 0 0 0) 1) := hV
      have hx0 : x < rN ((z_up r 0 0 0) 1) := hx
      have e01 : (z_up r 0 0 0) 1 = r 1 := rfl
      have e00 : (z_up r 0 0 0) 0 0 = 0 := rfl
      generalize z_up r 0 0 0 = r0 at *
      match j, hj with
      | 0, _ =>
        rw [show nI 0 = (0 : Int32) from rfl]
        rw [if_pos rfl, if_neg (by decide), pr_of0 hx8, Option.bind_some, e01]
        exact ⟨_, _, _, _, rfl, rfl, h0, ⟨e00, rfl⟩⟩
      | 1, _ =>
        rw [show nI 1 = (1 : Int32) from rfl]
        rw [if_neg (by decide), if_pos rfl, if_pos (pu_in hx8 (by decide)), zl, hR.a8 hx8, if_neg (by decide), pr_of1 hx8, Option.bind_some, e01]
        exact ⟨_, _, _, _, rfl, rfl, h0, ⟨e00, rfl⟩⟩
      | 2, _ =>
        rw [show nI 2 = (2 : Int32) from rfl]
        rw [if_neg (by decide), if_neg (by decide), if_pos rfl, if_pos (pu_in hx8 (by decide)), zl, hR.a9 hx8, if_neg (by decide), pr_of2 hx8, Option.bind_some, e01]
        exact ⟨_, _, _, _, rfl, rfl, h0, ⟨e00, rfl⟩⟩
      | 3, _ =>
        rw [show nI 3 = (3 : Int32) from rfl]
        rw [if_neg (by decide), if_neg (by decide), if_neg (by decide), if_pos rfl, if_pos (pu_in hx8 (by decide)), zl, hR.a10 hx8, if_neg (by decide), pr_of3 hx8, Option.bind_some, e01]
        exact ⟨_, _, _, _, rfl, rfl, h0, ⟨e00, rfl⟩⟩
      | 4, _ =>
        rw [show nI 4 = (4 : Int32) from rfl]
        rw [if_neg (by decide), if_neg (by decide), if_neg (by decide), if_neg (by decide), if_pos rfl, if_pos (show (4 : Int32) ≤ 4 by decide), if_pos rfl]
        rcases hV.pl hx with hw | ⟨d, hd, hw⟩
        · rw [if_pos hw, f_X11_owesBy_e, pr_waits hx8, e01, decide_eq_true hw, Option.bind_some, if_pos rfl]
          exact ⟨_, _, _, _, rfl, rfl, h0, ⟨e00, rfl⟩⟩
        · obtain ⟨T, T', hb⟩ := id h0
          obtain ⟨⟨⟨a1, a2, a3, a4⟩, a5, a6, a7, a8⟩, -⟩ := hb.1, hb.2
          obtain ⟨u', f1, R, C, F, -⟩ := pc_owesBy hR hV a3 (a7.ap (i := 0) (by decide)) hx hd hw (u 6 10)
          obtain ⟨r', f2, g1, g2⟩ := pr_owesBy (u := r0) hV0 a4 hx0 hd (by rw [e01]; exact hw) (r0 1 5)
          have e10 : u 6 10 = r0 1 5 := by rw [e01]; exact hR.s10
          rw [if_neg (by rw [hw]; exact pu_m1 (by omega)), f1, f2, z_b2s, z_b2s, e01, hR.s10]
          obtain ⟨f2', f3, f4, f5, f00, f03, f06, f08, f012⟩ := g2
          exact ⟨_, _, _, _, rfl, rfl, ⟨T, T', hb.tmp (w := 6) (Or.inl rfl) F (by rw [e01]; exact R) C g1 f2' f4 f5 f03 f06 f08 f012⟩, ⟨by rw [f00]; exact e00, rfl⟩⟩
      | 5, _ =>
        rw [show nI 5 = (5 : Int32) from rfl]
        rw [if_neg (by decide), if_neg (by decide), if_neg (by decide), if_neg (by decide), if_neg (by decide), if_pos rfl, if_pos (show (4 : Int32) ≤ 5 by decide), if_neg (show ¬ (5 : Int32) = 4 by decide), if_pos rfl, pr_waits hx8, e01, Option.bind_some]
        rcases hV.pl hx with hw | ⟨d, hd, hw⟩
        · rw [if_pos hw, decide_eq_true hw, if_pos rfl]
          exact ⟨_, _, _, _, rfl, rfl, h0, ⟨e00, rfl⟩⟩
        · have hm : r 1 (25 + 4 * x) ≠ -1 := by rw [hw]; exact pu_m1 (by omega)
          rw [if_neg hm, decide_eq_false hm, if_neg Bool.false_ne_true, pr_of0 hx8, Option.bind_some, e01, hw, pc_height hR hV (q 0) hd, pr_height hV0 hd, e01]
          exact ⟨_, _, _, _, rfl, rfl, h0, ⟨e00, rfl⟩⟩
      | 6, _ =>
        rw [show nI 6 = (6 : Int32) from rfl]
        rw [if_neg (by decide), if_neg (by decide), if_neg (by decide), if_neg (by decide), if_neg (by decide), if_neg (by decide), if_pos rfl, if_pos (show (4 : Int32) ≤ 6 by decide), if_neg (by decide), if_neg (by decide), if_neg (by decide), pc_level hR hV hx, pr_level hV0 hx0, e01, Option.bind_some]
        exact ⟨_, _, _, _, rfl, rfl, h0, ⟨e00, rfl⟩⟩
      | 7, _ =>
        rw [show nI 7 = (7 : Int32) from rfl]
        rw [if_neg (by decide), if_neg (by decide), if_neg (by decide), if_neg (by decide), if_neg (by decide), if_neg (by decide), if_neg (by decide), if_pos rfl, if_pos (show (4 : Int32) ≤ 7 by decide), if_neg (by decide), if_neg (by decide), if_pos rfl, pr_waits hx8, e01, Option.bind_some]
        by_cases hw : r 1 (25 + 4 * x) = -1
        · obtain ⟨k, hk⟩ := hV.at hx hw
          rw [decide_eq_true hw, if_pos rfl, pc_queuedAt hR hV (q 0) hk, pr_aheadOf hV0 (by rw [e01]; exact hk), Option.bind_some, Option.bind_some]
          exact ⟨_, _, _, _, rfl, rfl, h0, ⟨e00, rfl⟩⟩
        · rw [decide_eq_false hw, if_neg Bool.false_ne_true, pc_queuedNo hR hV (q 0) hx hw, Option.bind_some]
          exact ⟨_, _, _, _, rfl, rfl, h0, ⟨e00, rfl⟩⟩
    · rw [hin, zl false, if_neg Bool.false_ne_true, zl (z_up r 0 0 2), t00, if_neg (show ¬ (2 : Int32) ≤ 0 by decide)]
      rw [if_neg (show ¬ c = 0 from hne 0 (by decide)), if_neg (show ¬ c = 1 from hne 1 (by decide)), if_neg (show ¬ c = 2 from hne 2 (by decide)), if_neg (show ¬ c = 3 from hne 3 (by decide)), if_neg (show ¬ c = 4 from hne 4 (by decide)), if_neg (show ¬ c = 5 from hne 5 (by decide)), if_neg (show ¬ c = 6 from hne 6 (by decide)), if_neg (show ¬ c = 7 from hne 7 (by decide))]
      exact ⟨_, _, _, _, rfl, rfl, h.t 2, by simp [ANS, t00]⟩
  · rw [e2, e3, z_bxl, if_neg Bool.false_ne_true, zl (z_up r 0 0 1), t00, if_neg (show ¬ (1 : Int32) ≤ 0 by decide)]
    exact ⟨_, _, _, _, rfl, rfl, h.t 1, by simp [ANS, t00]⟩
/-! weights of sets -/
def sWt (v : Nat → Int32) (P : Nat → Bool) (n : Nat) : Int32 := zfo (fun k s => if P k = true then s + v (26 + 4 * k) else s) n 0
theorem sWt_ext {v : Nat → Int32} {P P' : Nat → Bool} {n : Nat} (h : ∀ r, r < n → P r = P' r) : sWt v P n = sWt v P' n := zfo_ext n (fun k hk => by rw [h k hk])
theorem pc_weightOf {q : zq} {u : zU} {v : Nat → Int32} (hR : RW u 6 v) (hV : IV v) {m : Nat} (hm : m < 256) : f_X10_weightOf q (nI m) u = some (sWt v (fun k => m.testBit k) (rN v)) := by
  have h8 := hV.n8
  rw [f_X10_weightOf_e]
  refine pu_loop (fun n s x => f_X10_weightOf_4 q n (nI m) s x u) (rN v) _ some (fun n k s hk => ?_) (fun n s => ?_) 5000 (by omega)
  · show f_X10_weightOf_4 q (n + 1) (nI m) s (nI k) u = _
    rw [f_X10_weightOf_4_s, hR.s8, hV.n, if_neg (nI_ge hk (by omega)), nI_1]
    by_cases hb : m.testBit k = true
    · rw [if_pos ((isOfc m hm k (by omega)).mpr hb), if_pos (pu_in (show k < 8 by omega) (by decide)), zl, zl, nI_clamp (by omega), hR.a8 (by omega), if_pos hb]
    · rw [if_neg (fun e => hb ((isOfc m hm k (by omega)).mp e)), if_neg hb]
  · show f_X10_weightOf_4 q (n + 1) (nI m) s (nI (rN v)) u = _
    rw [f_X10_weightOf_4_s, hR.s8, hV.n, if_pos (nI_le (Nat.le_refl _) (by omega))]
theorem pr_weightOf {u : zU} (hV : IV (u 1)) {m : Nat} (hm : m < 256) : f_X11_weightOf (nI m) u = some (sWt (u 1) (fun k => m.testBit k) (rN (u 1))) := by
  have h8 := hV.n8
  rw [f_X11_weightOf_e]
  refine pu_loop (fun n s x => f_X11_weightOf_4 n (nI m) s x u) (rN (u 1)) _ some (fun n k s hk => ?_) (fun n s => ?_) 5000 (by omega)
  · show f_X11_weightOf_4 (n + 1) (nI m) s (nI k) u = _
    rw [f_X11_weightOf_4_s, hV.n, if_neg (nI_ge hk (by omega)), nI_1, pu_isOf hm (by omega), zl]
    by_cases hb : m.testBit k = true
    · rw [if_pos hb, pr_of1 (by omega), Option.bind_some, zl, if_pos hb]
    · rw [if_neg hb, zl, if_neg hb, Int32.add_zero]
  · show f_X11_weightOf_4 (n + 1) (nI m) s (nI (rN (u 1))) u = _
    rw [f_X11_weightOf_4_s, hV.n, if_pos (nI_le (Nat.le_refl _) (by omega))]
theorem s_cradle {q : zq} {u r : zU} (h : RR q u r) (a c : Int32) : ∃ o x r', f_X10_cradle q a c u = some (o, q, u) ∧ f_X11_cradle a c r = some (x, r') ∧ RR q u r' ∧ ANS [("java/lang/IndexOutOfBoundsException", 1), ("java/util/NoSuchElementException", 2)] o x (r' 0 0) := by
  have hV := h.iv
  have hR := h.rw
  have h8 := hV.n8
  rw [f_X10_cradle_e, f_X11_cradle_e, zl]
  rcases need_c (q := q) (u := u) a r with ⟨x, hx, e1, e2, e3⟩ | ⟨e2, e3⟩
  · rw [e2, e3, z_bxr, if_pos rfl, e1]
    rcases isIn_t (a := c) (m := 5) (n := 5) rfl (by decide) r with ⟨j, hj, rfl, hin⟩ | ⟨hne, hin⟩
    · rw [hin, zl true, if_pos rfl, zl (z_up r 0 0 0), t00, if_pos (show (0 : Int32) ≤ 0 by decide)]
      have h0 := h.t 0
      have hV0 : IV ((z_up r 0 0 0) 1) := hV
      have e01 : (z_up r 0 0 0) 1 = r 1 := rfl
      have e00 : (z_up r 0 0 0) 0 0 = 0 := rfl
      generalize z_up r 0 0 0 = r0 at *
      match j, hj with
      | 0, _ =>
        rw [show nI 0 = (0 : Int32) from rfl]
        rw [if_pos rfl, if_pos rfl, if_pos (pu_in hx (by decide)), pu_l17, if_pos (pu_in (by omega) (by decide)), zl, zl, nI_clamp (by omega), nI_clamp (by omega), hR.a12 hx, e01]
        exact ⟨_, _, _, rfl, rfl, h0, ⟨e00, rfl⟩⟩
      | 1, _ =>
        rw [show nI 1 = (1 : Int32) from rfl]
        rw [if_neg (by decide), if_pos rfl, if_neg (by decide), if_pos rfl, pc_ridersIn hR hV, pr_those hV0, e01]
        exact ⟨_, _, _, rfl, rfl, h0, ⟨e00, rfl⟩⟩
      | 2, _ =>
        rw [show nI 2 = (2 : Int32) from rfl]
        rw [if_neg (by decide), if_neg (by decide), if_pos rfl, if_neg (by decide), if_neg (by decide), if_pos rfl, pc_places hR hV (q 0) hx, pr_places hV0 hx, e01]
        exact ⟨_, _, _, rfl, rfl, h0, ⟨e00, rfl⟩⟩
      | 3, _ =>
        rw [show nI 3 = (3 : Int32) from rfl]
        rw [if_neg (by decide), if_neg (by decide), if_neg (by decide), if_pos rfl, if_neg (by decide), if_neg (by decide), if_neg (by decide), if_pos rfl, pc_height hR hV (q 0) hx, pr_height hV0 hx, e01]
        exact ⟨_, _, _, rfl, rfl, h0, ⟨e00, rfl⟩⟩
      | 4, _ =>
        rw [show nI 4 = (4 : Int32) from rfl]
        rw [if_neg (by decide), if_neg (by decide), if_neg (by decide), if_neg (by decide), if_pos rfl, if_neg (by decide), if_neg (by decide), if_neg (by decide), if_neg (by decide), if_pos rfl, pc_ridersIn hR hV, pr_those hV0, e01, Option.bind_some, Option.bind_some, pc_weightOf hR hV (bset256 h8), pr_weightOf hV0 (bset256 h8), e01]
        exact ⟨_, _, _, rfl, rfl, h0, ⟨e00, rfl⟩⟩
      | 5, _ =>
        rw [show nI 5 = (5 : Int32) from rfl]
        rw [if_neg (by decide), if_neg (by decide), if_neg (by decide), if_neg (by decide), if_neg (by decide), if_pos rfl, if_neg (by decide), if_neg (by decide), if_neg (by decide), if_neg (by decide), if_neg (by decide), pc_cost hR hV (q 0) hx, pr_cost hV0 hx, e01]
        exact ⟨_, _, _, rfl, rfl, h0, ⟨e00, rfl⟩⟩
    · rw [hin, zl false, if_neg Bool.false_ne_true, zl (z_up r 0 0 2), t00, if_neg (show ¬ (2 : Int32) ≤ 0 by decide)]
      rw [if_neg (show ¬ c = 0 from hne 0 (by decide)), if_neg (show ¬ c = 1 from hne 1 (by decide)), if_neg (show ¬ c = 2 from hne 2 (by decide)), if_neg (show ¬ c = 3 from hne 3 (by decide)), if_neg (show ¬ c = 4 from hne 4 (by decide)), if_neg (show ¬ c = 5 from hne 5 (by decide))]
      exact ⟨_, _, _, rfl, rfl, h.t 2, by simp [ANS, t00]⟩
  · rw [e2, e3, z_bxl, if_neg Bool.false_ne_true, zl (z_up r 0 0 1), t00, if_neg (show ¬ (1 : Int32) ≤ 0 by decide)]
    exact ⟨_, _, _, rfl, rfl, h.t 1, by simp [ANS, t00]⟩
