/-! PURE, 28: parties -/
theorem nz_and (a b : Nat) : nI a &&& nI b = nI (a &&& b) := by
  apply Int32.toBitVec_inj.1
  show BitVec.ofNat 32 a &&& BitVec.ofNat 32 b = BitVec.ofNat 32 (a &&& b)
  apply BitVec.eq_of_getLsbD_eq
  intro i hi
  simp [hi]
theorem bset_and (P Q : Nat → Bool) (n : Nat) : bset P n &&& bset Q n = bset (fun k => P k && Q k) n := by
  apply Nat.eq_of_testBit_eq
  intro i
  rw [Nat.testBit_and, bset_bit, bset_bit, bset_bit]
  cases decide (i < n) <;> simp
def Pse (v : Nat → Int32) : Nat → Bool := fun k => !decide (v (25 + 4 * k) = -1)
theorem pc_seated {q : zq} {u : zU} {v : Nat → Int32} (hR : RW u 6 v) (hV : IV v) : f_X10_seatedRiders q u = some (nI (bset (Pse v) (rN v))) := by
  have h8 := hV.n8
  rw [f_X10_seatedRiders_e]
  refine pu_bset (fun n s x => f_X10_seatedRiders_4 q n s x u) (rN v) (Pse v) some h8 (fun n k s hk => ?_) (fun n s => ?_) 5000 (by omega)
  · show f_X10_seatedRiders_4 q (n + 1) s (nI k) u = _
    rw [f_X10_seatedRiders_4_s, hR.s8, hV.n, if_neg (nI_ge hk (by omega)), if_pos (pu_in (show k < 8 by omega) (by decide)), zl, nI_clamp (by omega), hR.a7 (by omega), nI_1]
    unfold Pse
    by_cases hw : v (25 + 4 * k) = -1
    · rw [if_pos hw, decide_eq_true hw]; rfl
    · rw [if_neg hw, zl, decide_eq_false hw]; rfl
  · show f_X10_seatedRiders_4 q (n + 1) s (nI (rN v)) u = _
    rw [f_X10_seatedRiders_4_s, hR.s8, hV.n, if_pos (nI_le (Nat.le_refl _) (by omega))]
theorem pr_seated {u : zU} (hV : IV (u 1)) : f_X11_seated u = some (nI (bset (Pse (u 1)) (rN (u 1)))) := by
  have h8 := hV.n8
  rw [f_X11_seated_e]
  refine pu_bset (fun n s x => f_X11_seated_4 n s x u) (rN (u 1)) (Pse (u 1)) some h8 (fun n k s hk => ?_) (fun n s => ?_) 5000 (by omega)
  · show f_X11_seated_4 (n + 1) s (nI k) u = _
    rw [f_X11_seated_4_s, hV.n, if_neg (nI_ge hk (by omega)), pr_waits (by omega), Option.bind_some, nI_1]
    unfold Pse
    by_cases hw : u 1 (25 + 4 * k) = -1
    · rw [decide_eq_true hw, if_pos rfl, zl, Int32.or_zero]; rfl
    · rw [decide_eq_false hw, if_neg Bool.false_ne_true, zl]; rfl
  · show f_X11_seated_4 (n + 1) s (nI (rN (u 1))) u = _
    rw [f_X11_seated_4_s, hV.n, if_pos (nI_le (Nat.le_refl _) (by omega))]
def Ppa (v : Nat → Int32) (m : Nat) : Nat → Bool := fun k => m.testBit (v (28 + 4 * k)).toNatClampNeg
theorem pc_ridersOf {q : zq} {u : zU} {v : Nat → Int32} (hR : RW u 6 v) (hV : IV v) {m : Nat} (hm : m < 256) : f_X10_ridersOf q (nI m) u = some (nI (bset (Ppa v m) (rN v))) := by
  have h8 := hV.n8
  rw [f_X10_ridersOf_e]
  refine pu_bset (fun n s x => f_X10_ridersOf_4 q n (nI m) s x u) (rN v) (Ppa v m) some h8 (fun n k s hk => ?_) (fun n s => ?_) 5000 (by omega)
  · show f_X10_ridersOf_4 q (n + 1) (nI m) s (nI k) u = _
    obtain ⟨p, hp, e⟩ := hV.pa (show k < 8 by omega)
    rw [f_X10_ridersOf_4_s, hR.s8, hV.n, if_neg (nI_ge hk (by omega)), if_pos (pu_in (show k < 8 by omega) (by decide)), zl, nI_clamp (by omega), hR.a10 (by omega), nI_1, e]
    unfold Ppa
    rw [e, nI_clamp (by omega)]
    by_cases hb : m.testBit p = true
    · rw [if_pos ((isOfc m hm p (by omega)).mpr hb), zl, if_pos hb]
    · rw [if_neg (fun q => hb ((isOfc m hm p (by omega)).mp q)), if_neg hb]
  · show f_X10_ridersOf_4 q (n + 1) (nI m) s (nI (rN v)) u = _
    rw [f_X10_ridersOf_4_s, hR.s8, hV.n, if_pos (nI_le (Nat.le_refl _) (by omega))]
def Pp1 (v : Nat → Int32) (p : Nat) : Nat → Bool := fun k => decide (v (28 + 4 * k) = nI p)
theorem pr_ridersOf {u : zU} (hV : IV (u 1)) (p : Nat) : f_X11_ridersOf (nI p) u = some (nI (bset (Pp1 (u 1) p) (rN (u 1)))) := by
  have h8 := hV.n8
  rw [f_X11_ridersOf_e]
  refine pu_bset (fun n s x => f_X11_ridersOf_4 n (nI p) s x u) (rN (u 1)) (Pp1 (u 1) p) some h8 (fun n k s hk => ?_) (fun n s => ?_) 5000 (by omega)
  · show f_X11_ridersOf_4 (n + 1) (nI p) s (nI k) u = _
    rw [f_X11_ridersOf_4_s, hV.n, if_neg (nI_ge hk (by omega)), pr_of3 (by omega), Option.bind_some, nI_1]
    unfold Pp1
    by_cases hw : u 1 (28 + 4 * k) = nI p
    · rw [if_pos hw, zl, if_pos (decide_eq_true hw)]
    · rw [if_neg hw, zl, Int32.or_zero, if_neg (by rw [decide_eq_false hw]; decide)]
  · show f_X11_ridersOf_4 (n + 1) (nI p) s (nI (rN (u 1))) u = _
    rw [f_X11_ridersOf_4_s, hV.n, if_pos (nI_le (Nat.le_refl _) (by omega))]
theorem tb1 : ∀ p, p < 4 → (1 : Int32) <<< (nI p &&& 31) = nI (2 ^ p) ∧ 2 ^ p < 16 ∧ ∀ j, j < 4 → (2 ^ p).testBit j = decide (j = p) := by decide +kernel
theorem Ppa_1 {v : Nat → Int32} (hV : IV v) {p : Nat} (hp : p < 4) {k : Nat} (hk : k < 8) : Ppa v (2 ^ p) k = Pp1 v p k := by
  obtain ⟨j, hj, e⟩ := hV.pa hk
  unfold Ppa Pp1
  rw [e, nI_clamp (by omega), (tb1 p hp).2.2 j (by omega)]
  by_cases h : j = p
  · rw [decide_eq_true h, h, decide_eq_true rfl]
  · rw [decide_eq_false h, decide_eq_false (fun q => h ((nI_eq (by omega) (by omega)).mp q))]
theorem pc_sW {q : zq} {u : zU} {v : Nat → Int32} (hR : RW u 6 v) (hV : IV v) {m : Nat} (hm : m < 256) : f_X10_seatedWeight q (nI m) u = some (sWt v (fun k => Ppa v m k && Pse v k) (rN v)) := by
  have h8 := hV.n8
  rw [f_X10_seatedWeight_e, pc_ridersOf hR hV hm, Option.bind_some, pc_seated hR hV, Option.bind_some, nz_and, bset_and, pc_weightOf hR hV (bset256 h8), Option.bind_some, sWt_ext (P' := fun k => Ppa v m k && Pse v k) (fun k hk => by rw [bset_bit, decide_eq_true hk, Bool.true_and])]
theorem pr_w1 {u : zU} (hV : IV (u 1)) (p : Nat) : (f_X11_ridersOf (nI p) u).bind (fun r5 => (f_X11_seated u).bind (fun r6 => f_X11_weightOf (r5 &&& r6) u)) = some (sWt (u 1) (fun k => Pp1 (u 1) p k && Pse (u 1) k) (rN (u 1))) := by
  have h8 := hV.n8
  rw [pr_ridersOf hV, Option.bind_some, pr_seated hV, Option.bind_some, nz_and, bset_and, pr_weightOf hV (bset256 h8), sWt_ext (P' := fun k => Pp1 (u 1) p k && Pse (u 1) k) (fun k hk => by rw [bset_bit, decide_eq_true hk, Bool.true_and])]
theorem pr_w1' {u : zU} (hV : IV (u 1)) (p : Nat) : f_X11_weightOf (nI (bset (Pp1 (u 1) p) (rN (u 1))) &&& nI (bset (Pse (u 1)) (rN (u 1)))) u = some (sWt (u 1) (fun k => Pp1 (u 1) p k && Pse (u 1) k) (rN (u 1))) := by
  have h8 := hV.n8
  rw [nz_and, bset_and, pr_weightOf hV (bset256 h8), sWt_ext (P' := fun k => Pp1 (u 1) p k && Pse (u 1) k) (fun k hk => by rw [bset_bit, decide_eq_true hk, Bool.true_and])]
/-- what all who sit weigh -/
def sTo (v : Nat → Int32) : Int32 := sWt v (Pse v) (rN v)
theorem pc_tot {q : zq} {u : zU} {v : Nat → Int32} (hR : RW u 6 v) (hV : IV v) : f_X10_weightOf q (nI (bset (Pse v) (rN v))) u = some (sTo v) := by
  rw [pc_weightOf hR hV (bset256 hV.n8), sTo, sWt_ext (P' := Pse v) (fun k hk => by rw [bset_bit, decide_eq_true hk, Bool.true_and])]
theorem pr_tot {u : zU} (hV : IV (u 1)) : f_X11_weightOf (nI (bset (Pse (u 1)) (rN (u 1)))) u = some (sTo (u 1)) := by
  rw [pr_weightOf hV (bset256 hV.n8), sTo, sWt_ext (P' := Pse (u 1)) (fun k hk => by rw [bset_bit, decide_eq_true hk, Bool.true_and])]
def sMa (v : Nat → Int32) (m : Nat) : Bool := !decide ((2 : Int32) * sWt v (fun k => Ppa v m k && Pse v k) (rN v) ≤ sTo v)
theorem pc_major {q : zq} {u : zU} {v : Nat → Int32} (hR : RW u 6 v) (hV : IV v) {m : Nat} (hm : m < 256) : f_X10_isMajority q (nI m) u = some (sMa v m) := by
  rw [f_X10_isMajority_e, pc_sW hR hV hm, Option.bind_some, pc_seated hR hV, Option.bind_some, pc_tot hR hV, Option.bind_some]
  unfold sMa
  split
  · rename_i h; rw [decide_eq_true h]; rfl
  · rename_i h; rw [decide_eq_false h]; rfl
theorem sWt_s (v : Nat → Int32) (P : Nat → Bool) (n : Nat) : sWt v P (n + 1) = if P n = true then sWt v P n + v (26 + 4 * n) else sWt v P n := rfl
theorem add_i (a b c d w : Int32) : a + w + b + c + d = a + b + c + d + w ∧ a + (b + w) + c + d = a + b + c + d + w ∧ a + b + (c + w) + d = a + b + c + d + w ∧ a + b + c + (d + w) = a + b + c + d + w := by
  refine ⟨?_, ?_, ?_, ?_⟩ <;> ac_rfl
def sPs (v : Nat → Int32) (m p n : Nat) : Int32 := if m.testBit p = true then sWt v (fun k => Pp1 v p k && Pse v k) n else 0
theorem sPs_no {v : Nat → Int32} {m p n : Nat} (h : (Pp1 v p n && Pse v n) = false) : sPs v m p (n + 1) = sPs v m p n := by
  unfold sPs
  rw [sWt_s, h, if_neg Bool.false_ne_true]
theorem sPs_yes {v : Nat → Int32} {m p n : Nat} (hb : m.testBit p = true) (h : (Pp1 v p n && Pse v n) = true) : sPs v m p (n + 1) = sPs v m p n + v (26 + 4 * n) := by
  unfold sPs
  rw [sWt_s, if_pos h, if_pos hb, if_pos hb]
theorem sPs_off {v : Nat → Int32} {m p n : Nat} (hb : ¬ m.testBit p = true) : sPs v m p (n + 1) = sPs v m p n := by
  unfold sPs
  rw [if_neg hb, if_neg hb]
theorem maj_sum {v : Nat → Int32} (hV : IV v) (m : Nat) : ∀ n, n ≤ 8 → sWt v (fun k => Ppa v m k && Pse v k) n = sPs v m 0 n + sPs v m 1 n + sPs v m 2 n + sPs v m 3 n
  | 0, _ => by
    have h : ∀ p, sPs v m p 0 = 0 := fun p => by unfold sPs; split <;> rfl
    rw [h, h, h, h]; rfl
  | n + 1, hn => by
    have ih := maj_sum hV m n (by omega)
    obtain ⟨p, hp, e⟩ := hV.pa (show n < 8 by omega)
    have hPa : Ppa v m n = m.testBit p := by unfold Ppa; rw [e, nI_clamp (by omega)]
    have hP1 : ∀ j, j < 4 → Pp1 v j n = decide (p = j) := fun j hj => by
      unfold Pp1
      rw [e]
      by_cases h : p = j
      · rw [decide_eq_true h, h, decide_eq_true rfl]
      · rw [decide_eq_false h, decide_eq_false (fun q => h ((nI_eq (by omega) (by omega)).mp q))]
    rw [sWt_s, hPa, ih]
    have hoff : ∀ j, j < 4 → j ≠ p → sPs v m j (n + 1) = sPs v m j n := fun j hj hne => sPs_no (by rw [hP1 j hj, decide_eq_false (fun q => hne q.symm)]; rfl)
    have hon : sPs v m p (n + 1) = if (m.testBit p && Pse v n) = true then sPs v m p n + v (26 + 4 * n) else sPs v m p n := by
      by_cases hb : m.testBit p = true
      · rw [hb, Bool.true_and]
        by_cases hs : Pse v n = true
        · rw [if_pos hs]; exact sPs_yes hb (by rw [hP1 p (by omega), decide_eq_true rfl, hs]; rfl)
        · rw [if_neg hs]; exact sPs_no (by rw [hP1 p (by omega), decide_eq_true rfl, Bool.true_and]; revert hs; cases Pse v n <;> simp)
      · rw [if_neg (by rw [Bool.and_eq_true]; exact fun q => hb q.1)]; exact sPs_off hb
    obtain ⟨i1, i2, i3, i4⟩ := add_i (sPs v m 0 n) (sPs v m 1 n) (sPs v m 2 n) (sPs v m 3 n) (v (26 + 4 * n))
    match p, hp, hon, hoff with
    | 0, _, hon, hoff =>
      rw [hoff 1 (by decide) (by decide), hoff 2 (by decide) (by decide), hoff 3 (by decide) (by decide), hon]
      split
      · exact i1.symm
      · rfl
    | 1, _, hon, hoff =>
      rw [hoff 0 (by decide) (by decide), hoff 2 (by decide) (by decide), hoff 3 (by decide) (by decide), hon]
      split
      · exact i2.symm
      · rfl
    | 2, _, hon, hoff =>
      rw [hoff 0 (by decide) (by decide), hoff 1 (by decide) (by decide), hoff 3 (by decide) (by decide), hon]
      split
      · exact i3.symm
      · rfl
    | 3, _, hon, hoff =>
      rw [hoff 0 (by decide) (by decide), hoff 1 (by decide) (by decide), hoff 2 (by decide) (by decide), hon]
      split
      · exact i4.symm
      · rfl
theorem pr_major {u : zU} (hV : IV (u 1)) {m : Nat} (hm : m < 256) : f_X11_isMajor (nI m) u = some (sMa (u 1) m) := by
  have h8 := hV.n8
  have hstep : ∀ n k s, k < 4 → f_X11_isMajor_4 (n + 1) (nI m) s (nI k) u = f_X11_isMajor_4 n (nI m) (s + sPs (u 1) m k (rN (u 1))) (nI (k + 1)) u := fun n k s hk => by
    rw [f_X11_isMajor_4_s, if_neg (show ¬ (4 : Int32) ≤ nI k from nI_ge (b := 4) hk (by decide)), pu_isOf hm (by omega), zl, nI_1]
    unfold sPs
    by_cases hb : m.testBit k = true
    · rw [if_pos hb, if_pos hb, pr_ridersOf hV, Option.bind_some, pr_seated hV, Option.bind_some, pr_w1' hV, Option.bind_some, zl]
    · rw [if_neg hb, if_neg hb, zl]
  rw [f_X11_isMajor_e, show (0 : Int32) = nI 0 from rfl, hstep 4999 0 _ (by decide), hstep 4998 1 _ (by decide), hstep 4997 2 _ (by decide), hstep 4996 3 _ (by decide), f_X11_isMajor_4_s, if_pos (show (4 : Int32) ≤ nI (3 + 1) by decide), pr_seated hV, Option.bind_some, pr_tot hV, Option.bind_some]
  rw [show nI 0 + sPs (u 1) m 0 (rN (u 1)) = sPs (u 1) m 0 (rN (u 1)) from Int32.zero_add _, ← maj_sum hV m (rN (u 1)) h8]
  unfold sMa
  split
  · rename_i h; rw [decide_eq_true h]; rfl
  · rename_i h; rw [decide_eq_false h]; rfl
/-! power -/
def Ppw (v : Nat → Int32) (p : Nat) : Nat → Bool := fun s => !s.testBit p && (!sMa v s && sMa v (s ||| 2 ^ p))
def sPw (v : Nat → Int32) (p : Nat) : Int32 := zfo (fun s n => if Ppw v p s = true then n + 1 else n) 16 0
theorem pw0 : ∀ s, s < 16 → ∀ p, p < 4 → (nI s &&& nI (2 ^ p) = 0 ↔ s.testBit p = false) ∧ nI s ||| nI (2 ^ p) = nI (s ||| 2 ^ p) ∧ s ||| 2 ^ p < 16 ∧ nI s ||| ((1 : Int32) <<< (nI p &&& 31)) = nI (s ||| 2 ^ p) := by decide +kernel
theorem pc_power {q : zq} {u : zU} {v : Nat → Int32} (hR : RW u 6 v) (hV : IV v) {p : Nat} (hp : p < 4) : f_X10_powerOf q (nI (2 ^ p)) u = some (sPw v p) := by
  rw [f_X10_powerOf_e]
  refine pu_loop (fun n t x => f_X10_powerOf_4 q n (nI (2 ^ p)) t x u) 16 _ some (fun n s t hs => ?_) (fun n t => ?_) 5000 (by decide)
  · show f_X10_powerOf_4 q (n + 1) (nI (2 ^ p)) t (nI s) u = _
    obtain ⟨w1, w2, w3, -⟩ := pw0 s hs p hp
    rw [f_X10_powerOf_4_s, if_neg (show ¬ (16 : Int32) ≤ nI s from nI_ge (b := 16) hs (by decide)), nI_1]
    unfold Ppw
    by_cases hb : s.testBit p = false
    · rw [if_pos (w1.mpr hb), pc_major hR hV (by omega), Option.bind_some, w2, pc_major hR hV (by omega), Option.bind_some, hb]
      cases sMa v s <;> cases sMa v (s ||| 2 ^ p) <;> rfl
    · have hb2 : s.testBit p = true := by revert hb; cases s.testBit p <;> simp
      rw [if_neg (fun q => hb (w1.mp q)), hb2]; rfl
  · show f_X10_powerOf_4 q (n + 1) (nI (2 ^ p)) t (nI 16) u = _
    rw [f_X10_powerOf_4_s, if_pos (show (16 : Int32) ≤ nI 16 by decide)]
theorem pr_power {u : zU} (hV : IV (u 1)) {p : Nat} (hp : p < 4) : f_X11_power (nI p) u = some (sPw (u 1) p) := by
  rw [f_X11_power_e]
  refine pu_loop (fun n t x => f_X11_power_4 n (nI p) t x u) 16 _ some (fun n s t hs => ?_) (fun n t => ?_) 5000 (by decide)
  · show f_X11_power_4 (n + 1) (nI p) t (nI s) u = _
    obtain ⟨-, -, w3, w4⟩ := pw0 s hs p hp
    rw [f_X11_power_4_s, if_neg (show ¬ (16 : Int32) ≤ nI s from nI_ge (b := 16) hs (by decide)), pu_isOf (by omega) (by omega), zl, nI_1]
    unfold Ppw
    by_cases hb : s.testBit p = true
    · rw [if_pos hb, zl, Int32.add_zero, hb]; rfl
    · have hb2 : s.testBit p = false := by revert hb; cases s.testBit p <;> simp
      rw [if_neg hb, pr_major hV (by omega), Option.bind_some, w4, pr_major hV (by omega), Option.bind_some, hb2, zl, zl, Int32.add_zero]
      cases sMa (u 1) s <;> cases sMa (u 1) (s ||| 2 ^ p) <;> rfl
  · show f_X11_power_4 (n + 1) (nI p) t (nI 16) u = _
    rw [f_X11_power_4_s, if_pos (show (16 : Int32) ≤ nI 16 by decide)]
theorem s_party {q : zq} {u r : zU} (h : RR q u r) (a c : Int32) : ∃ o x r', f_X10_party q a c u = some (o, q, u) ∧ f_X11_party a c r = some (x, r') ∧ RR q u r' ∧ ANS [(eIO, 1), (eNS, 2)] o x (r' 0 0) := by
  have hV := h.iv
  have hR := h.rw
  have h8 := hV.n8
  rcases need_p (q := q) (u := u) a r with ⟨p, hp, e1, e2, e3⟩ | ⟨e2, e3⟩
  · obtain ⟨b1, b2, -⟩ := tb1 p hp
    rcases isIn_t (a := c) (m := 3) (n := 3) rfl (by decide) r with ⟨j, hj, e5, hin⟩ | ⟨hne, hin⟩
    · have hV0 : IV ((z_up r 0 0 0) 1) := hV
      have hcl : ∀ y, f_X10_party q a c u = some (.inr y, q, u) → f_X11_party a c r = some (y, z_up r 0 0 0) → ∃ o x r', f_X10_party q a c u = some (o, q, u) ∧ f_X11_party a c r = some (x, r') ∧ RR q u r' ∧ ANS [(eIO, 1), (eNS, 2)] o x (r' 0 0) := fun y c1 c2 => ⟨_, _, _, c1, c2, h.t 0, ⟨rfl, rfl⟩⟩
      match j, hj with
      | 0, _ =>
        have e5' : c = 0 := e5
        refine hcl (r 1 (13 + p)) ?_ ?_
        · rw [f_X10_party_e, e2, z_bxr, if_pos e5', e1, if_pos (pu_in hp (by decide)), zl, nI_clamp (by omega), hR.a13 hp]
        · rw [f_X11_party_e, zl, e3, if_pos rfl, zl, hin, if_pos rfl, zl, t00, if_pos (by decide), if_pos e5', e1, pu_l13, if_pos (pu_in (by omega) (by decide)), zl, nI_clamp (by omega), t01]
      | 1, _ =>
        have e5' : c = 1 := e5
        refine hcl (nI (bset (Pp1 (r 1) p) (rN (r 1)))) ?_ ?_
        · rw [f_X10_party_e, e2, z_bxr, if_neg (show ¬ c = 0 by rw [e5']; decide), if_pos e5', e1, b1, pc_ridersOf hR hV (by omega), Option.bind_some, bset_ext (P' := Pp1 (r 1) p) _ (fun k hk => Ppa_1 hV hp (by omega))]
        · rw [f_X11_party_e, zl, e3, if_pos rfl, zl, hin, if_pos rfl, zl, t00, if_pos (by decide), if_neg (show ¬ c = 0 by rw [e5']; decide), if_pos e5', e1, pr_ridersOf hV0, Option.bind_some, t01]
      | 2, _ =>
        have e5' : c = 2 := e5
        refine hcl (sWt (r 1) (fun k => Pp1 (r 1) p k && Pse (r 1) k) (rN (r 1))) ?_ ?_
        · rw [f_X10_party_e, e2, z_bxr, if_neg (show ¬ c = 0 by rw [e5']; decide), if_neg (show ¬ c = 1 by rw [e5']; decide), if_pos e5', e1, b1, pc_sW hR hV (by omega), Option.bind_some, sWt_ext (P' := fun k => Pp1 (r 1) p k && Pse (r 1) k) (fun k hk => by rw [Ppa_1 hV hp (by omega)])]
        · rw [f_X11_party_e, zl, e3, if_pos rfl, zl, hin, if_pos rfl, zl, t00, if_pos (by decide), if_neg (show ¬ c = 0 by rw [e5']; decide), if_neg (show ¬ c = 1 by rw [e5']; decide), if_pos e5', e1, pr_ridersOf hV0, Option.bind_some, pr_seated hV0, Option.bind_some, pr_w1' hV0, Option.bind_some, t01]
      | 3, _ =>
        have e5' : c = 3 := e5
        refine hcl (sPw (r 1) p) ?_ ?_
        · rw [f_X10_party_e, e2, z_bxr, if_neg (show ¬ c = 0 by rw [e5']; decide), if_neg (show ¬ c = 1 by rw [e5']; decide), if_neg (show ¬ c = 2 by rw [e5']; decide), if_pos e5', e1, b1, pc_power hR hV hp, Option.bind_some]
        · rw [f_X11_party_e, zl, e3, if_pos rfl, zl, hin, if_pos rfl, zl, t00, if_pos (by decide), if_neg (show ¬ c = 0 by rw [e5']; decide), if_neg (show ¬ c = 1 by rw [e5']; decide), if_neg (show ¬ c = 2 by rw [e5']; decide), e1, pr_power hV0 hp, Option.bind_some, t01]
    · have hc : f_X10_party q a c u = some (.inl eNS, q, u) := by
        rw [f_X10_party_e, e2, z_bxr, if_neg (show ¬ c = 0 from hne 0 (by decide)), if_neg (show ¬ c = 1 from hne 1 (by decide)), if_neg (show ¬ c = 2 from hne 2 (by decide)), if_neg (show ¬ c = 3 from hne 3 (by decide))]
      have hr : f_X11_party a c r = some (0, z_up r 0 0 2) := by rw [f_X11_party_e, zl, e3, if_pos rfl, zl, hin, if_neg Bool.false_ne_true, zl, t00, if_neg (by decide)]
      exact ⟨_, _, _, hc, hr, h.t 2, by simp [ANS, t00]⟩
  · have hc : f_X10_party q a c u = some (.inl eIO, q, u) := by rw [f_X10_party_e, e2, z_bxl]
    have hr : f_X11_party a c r = some (0, z_up r 0 0 1) := by rw [f_X11_party_e, zl, e3, if_neg Bool.false_ne_true, zl, t00, if_neg (by decide)]
    exact ⟨_, _, _, hc, hr, h.t 1, by simp [ANS, t00]⟩
