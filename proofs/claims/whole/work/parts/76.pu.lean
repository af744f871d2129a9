/-! PURE, 27: rests -/
/-- what riders of a party keep together by a fare -/
def sKe1 (v : Nat → Int32) (T : zT) (p : Nat) (fare : Int32) (k : Nat) (s : Int32) : Int32 := if v (25 + 4 * k) = -1 then s else if v (28 + 4 * k) = nI p then s + z_max 0 (v (27 + 4 * k) - sOw v T k (v (25 + 4 * k)).toNatClampNeg fare) else s
def sKe (v : Nat → Int32) (T : zT) (p : Nat) (fare : Int32) (n : Nat) : Int32 := zfo (sKe1 v T p fare) n 0
theorem pc_purseOf {q : zq} {u : zU} {v : Nat → Int32} {T : zT} (hR : RW u 6 v) (hV : IV v) (hC : CL u (q 0) T) (hL : Lap 6 (q 0)) (p : Nat) (fare : Int32) : ∃ u', f_X10_purseOf q (nI p) fare u = some (sKe v T p fare (rN v), u') ∧ RW u' 6 v ∧ CL u' (q 0) T ∧ Fr 6 (q 0) u u' := by
  have h8 := hV.n8
  have hm : ∀ d k fuel u2, k + d = rN v → d < fuel → RW u2 6 v → CL u2 (q 0) T → Fr 6 (q 0) u u2 → ∃ u', f_X10_purseOf_5 q fuel (nI p) fare (sKe v T p fare k) (nI k) u2 = some (sKe v T p fare (rN v), u') ∧ RW u' 6 v ∧ CL u' (q 0) T ∧ Fr 6 (q 0) u u' := by
    intro d
    induction d with
    | zero =>
      intro k fuel u2 hk hf R2 C2 F2
      obtain ⟨m, rfl⟩ : ∃ m, fuel = m + 1 := ⟨fuel - 1, by omega⟩
      obtain rfl : k = rN v := by omega
      rw [f_X10_purseOf_5_s, R2.s8, hV.n, if_pos (nI_le (Nat.le_refl _) (by omega))]
      exact ⟨u2, rfl, R2, C2, F2⟩
    | succ d ih =>
      intro k fuel u2 hk hf R2 C2 F2
      obtain ⟨m, rfl⟩ : ∃ m, fuel = m + 1 := ⟨fuel - 1, by omega⟩
      have hk8 : k < 8 := by omega
      have hs : sKe v T p fare (k + 1) = sKe1 v T p fare k (sKe v T p fare k) := rfl
      have ih2 := ih (k + 1) m
      rw [hs] at ih2
      rw [f_X10_purseOf_5_s, R2.s8, hV.n, if_neg (nI_ge (by omega) (by omega)), if_pos (pu_in hk8 (by decide)), zl, nI_clamp (by omega), R2.a7 hk8, nI_1]
      rcases hV.pl (show k < rN v by omega) with hw | ⟨c, hc, hw⟩
      · rw [if_pos hw]
        unfold sKe1 at ih2
        rw [if_pos hw] at ih2
        exact ih2 u2 (by omega) (by omega) R2 C2 F2
      · have hne : v (25 + 4 * k) ≠ -1 := by rw [hw]; exact pu_m1 (by omega)
        rw [if_neg hne, if_pos (pu_in hk8 (by decide)), zl, R2.a10 hk8]
        by_cases hp : v (28 + 4 * k) = nI p
        · obtain ⟨u3, e3, R3, C3, F3, -⟩ := pc_owesBy R2 hV C2 hL (x := k) (by omega) hc hw fare
          rw [if_pos hp, if_pos (pu_in hk8 (by decide)), zl, R2.a9 hk8, e3, z_b2s, zl, zl]
          unfold sKe1 at ih2
          rw [if_neg hne, if_pos hp, hw, nI_clamp (by omega)] at ih2
          exact ih2 u3 (by omega) (by omega) R3 C3 (F2.tr F3)
        · rw [if_neg hp]
          unfold sKe1 at ih2
          rw [if_neg hne, if_neg hp] at ih2
          exact ih2 u2 (by omega) (by omega) R2 C2 F2
  rw [f_X10_purseOf_e]
  exact hm (rN v) 0 5000 u (by omega) (by omega) hR hC Fr.rf
theorem pr_keeps54 {r : zU} {T : zT} (hV : IV (r 1)) (hT : RLw (r 1) T) (p : Nat) (fare : Int32) : ∃ r', f_X11_keeps_54 5000 (nI p) fare 0 0 r = some (sKe (r 1) T p fare (rN (r 1)), r') ∧ r' 1 = r 1 ∧ RF r r' := by
  have h8 := hV.n8
  have hm : ∀ d k fuel r2, k + d = rN (r 1) → d < fuel → r2 1 = r 1 → RF r r2 → ∃ r', f_X11_keeps_54 fuel (nI p) fare (sKe (r 1) T p fare k) (nI k) r2 = some (sKe (r 1) T p fare (rN (r 1)), r') ∧ r' 1 = r 1 ∧ RF r r' := by
    intro d
    induction d with
    | zero =>
      intro k fuel r2 hk hf e F2
      obtain ⟨m, rfl⟩ : ∃ m, fuel = m + 1 := ⟨fuel - 1, by omega⟩
      obtain rfl : k = rN (r 1) := by omega
      rw [f_X11_keeps_54_s, e, hV.n, if_pos (nI_le (Nat.le_refl _) (by omega))]
      exact ⟨r2, rfl, e, F2⟩
    | succ d ih =>
      intro k fuel r2 hk hf e F2
      obtain ⟨m, rfl⟩ : ∃ m, fuel = m + 1 := ⟨fuel - 1, by omega⟩
      have hk8 : k < 8 := by omega
      have hs : sKe (r 1) T p fare (k + 1) = sKe1 (r 1) T p fare k (sKe (r 1) T p fare k) := rfl
      have ih2 := ih (k + 1) m
      rw [hs] at ih2
      rw [f_X11_keeps_54_s, e, hV.n, if_neg (nI_ge (by omega) (by omega)), pr_of3 hk8, Option.bind_some, e, nI_1]
      by_cases hp : r 1 (28 + 4 * k) = nI p
      · rw [if_pos hp, pr_waits hk8, Option.bind_some, e]
        rcases hV.pl (show k < rN (r 1) by omega) with hw | ⟨c, hc, hw⟩
        · rw [decide_eq_true hw, if_pos rfl]
          unfold sKe1 at ih2
          rw [if_pos hw] at ih2
          exact ih2 r2 (by omega) (by omega) e F2
        · have hne : r 1 (25 + 4 * k) ≠ -1 := by rw [hw]; exact pu_m1 (by omega)
          obtain ⟨r3, e3, k3, F3⟩ := pr_owesBy (u := r2) (T := T) (by rw [e]; exact hV) (by rw [e]; exact hT) (x := k) (c := c) (by rw [e]; omega) hc (by rw [e]; exact hw) fare
          rw [e] at e3 k3
          rw [decide_eq_false hne, if_neg Bool.false_ne_true, pr_of2 hk8, Option.bind_some, e, e3, z_b2s, zl, zl, f_X11_greater_e, z_max_eq]
          unfold sKe1 at ih2
          rw [if_neg hne, if_pos hp, hw, nI_clamp (by omega)] at ih2
          exact ih2 r3 (by omega) (by omega) k3 (F2.tr F3)
      · rw [if_neg hp]
        have hs2 : sKe1 (r 1) T p fare k (sKe (r 1) T p fare k) = sKe (r 1) T p fare k := by
          unfold sKe1
          split
          · rfl
          · rfl
        rw [hs2] at ih2
        exact ih2 r2 (by omega) (by omega) e F2
  exact hm (rN (r 1)) 0 5000 r (by omega) (by omega) rfl RF.rf
def sPr (v : Nat → Int32) (k : Nat) : Int32 := if k = 0 then z_min 99 (v 5 + 1) else if k = 3 then z_max 0 (v 5 - 1) else v 5
theorem pc_priceBy {q : zq} {u : zU} {v : Nat → Int32} (hR : RW u 6 v) {k : Nat} (hk : k < 4) : f_X10_priceBy q (nI k) u = sPr v k := by
  rw [f_X10_priceBy_e, hR.s10]
  unfold sPr
  match k, hk with
  | 0, _ => rw [if_pos (show nI 0 = (0 : Int32) from rfl), zl, if_pos rfl]
  | 1, _ => rw [if_neg (by decide), if_neg (by decide), if_neg (by decide), if_neg (by decide)]
  | 2, _ => rw [if_neg (by decide), if_neg (by decide), if_neg (by decide), if_neg (by decide)]
  | 3, _ => rw [if_neg (by decide), if_pos (by decide), if_neg (by decide), if_pos rfl, zl]
theorem pr_keeps {r : zU} (p : Nat) {a b : Nat} (ha : a < 2) (hb : b < 2) : f_X11_keeps (nI p) (nI a) (nI b) r = f_X11_keeps_54 5000 (nI p) (sPr (r 1) (2 * a + b)) 0 0 r := by
  rw [f_X11_keeps_e]
  unfold sPr
  match a, b, ha, hb with
  | 0, 0, _, _ => rw [if_pos rfl, if_pos (by decide), if_pos rfl, zl, f_X11_lesser_e, z_min_eq]
  | 0, 1, _, _ => rw [if_neg (by decide), zl, if_neg (by decide), if_neg (by decide)]
  | 1, 0, _, _ => rw [if_neg (by decide), zl, if_neg (by decide), if_neg (by decide)]
  | 1, 1, _, _ => rw [if_pos rfl, if_neg (by decide), zl, if_neg (by decide), if_pos (by decide), f_X11_greater_e, z_max_eq]
def kx2 (k : Nat) : Nat := [2, 3, 0, 1].getD k 0
def kx1 (k : Nat) : Nat := [1, 0, 3, 2].getD k 0
theorem kx0 : ∀ k, k < 4 → nI k ^^^ 2 = nI (kx2 k) ∧ nI k ^^^ 1 = nI (kx1 k) ∧ kx2 k < 4 ∧ kx1 k < 4 ∧ nI k / 2 = nI (k / 2) ∧ z_rem (nI k) 2 = nI (k % 2) ∧ (1 : Int32) - nI (k / 2) = nI (1 - k / 2) ∧ (1 : Int32) - nI (k % 2) = nI (1 - k % 2) ∧ 2 * (1 - k / 2) + k % 2 = kx2 k ∧ 2 * (k / 2) + (1 - k % 2) = kx1 k ∧ 2 * (k / 2) + k % 2 = k ∧ k / 2 < 2 ∧ k % 2 < 2 ∧ 1 - k / 2 < 2 ∧ 1 - k % 2 < 2 := by decide +kernel
def Prs (v : Nat → Int32) (T : zT) (p o : Nat) (k : Nat) : Bool := !decide (sKe v T p (sPr v k) (rN v) < sKe v T p (sPr v (kx2 k)) (rN v)) && !decide (sKe v T o (sPr v k) (rN v) < sKe v T o (sPr v (kx1 k)) (rN v))
theorem bset_or {P : Nat → Bool} {k : Nat} (hk : k < 8) (h : P k = true) : nI (bset P k) ||| ((1 : Int32) <<< (nI k &&& 31)) = nI (bset P (k + 1)) := by
  rw [bset_s, if_pos h]; exact pu_or0 k hk _ (bset_lt P k)
theorem bset_no1 {P : Nat → Bool} {k : Nat} (h : ¬ P k = true) : bset P (k + 1) = bset P k := by rw [bset_s, if_neg h]
theorem pc_rests {q : zq} {u : zU} {v : Nat → Int32} {T : zT} (hV : IV v) (hL : Lap 6 (q 0)) (p o : Nat) : ∀ d k fuel u2, k + d = 4 → d < fuel → RW u2 6 v → CL u2 (q 0) T → Fr 6 (q 0) u u2 → ∃ u', f_X10_rests_29 q fuel (nI p) (nI o) (nI (bset (Prs v T p o) k)) (nI k) u2 = some (.inr (nI (bset (Prs v T p o) 4)), q, u') ∧ RW u' 6 v ∧ CL u' (q 0) T ∧ Fr 6 (q 0) u u' := by
  intro d
  induction d with
  | zero =>
    intro k fuel u2 hk hf R2 C2 F2
    obtain ⟨m, rfl⟩ : ∃ m, fuel = m + 1 := ⟨fuel - 1, by omega⟩
    obtain rfl : k = 4 := by omega
    rw [f_X10_rests_29_s, if_pos (show (4 : Int32) ≤ nI 4 by decide)]
    exact ⟨u2, rfl, R2, C2, F2⟩
  | succ d ih =>
    intro k fuel u2 hk hf R2 C2 F2
    obtain ⟨m, rfl⟩ : ∃ m, fuel = m + 1 := ⟨fuel - 1, by omega⟩
    have hk4 : k < 4 := by omega
    obtain ⟨x1, x2, x3, x4, -⟩ := kx0 k hk4
    obtain ⟨ua, ea, Ra, Ca, Fa⟩ := pc_purseOf (q := q) R2 hV C2 hL p (sPr v (kx2 k))
    obtain ⟨ub, eb, Rb, Cb, Fb⟩ := pc_purseOf (q := q) Ra hV Ca hL p (sPr v k)
    obtain ⟨uc, ec, Rc, Cc, Fc⟩ := pc_purseOf (q := q) Rb hV Cb hL o (sPr v (kx1 k))
    obtain ⟨ud, ed, Rd, Cd, Fd⟩ := pc_purseOf (q := q) Rc hV Cc hL o (sPr v k)
    have FF := (((F2.tr Fa).tr Fb).tr Fc).tr Fd
    have ih2 := ih (k + 1) m ud (by omega) (by omega) Rd Cd FF
    rw [f_X10_rests_29_s, if_neg (show ¬ (4 : Int32) ≤ nI k from nI_ge (b := 4) hk4 (by decide)), x1, x2, pc_priceBy R2 hk4, pc_priceBy R2 x3, zl, zl, ea, z_b2s, eb, z_b2s, pc_priceBy Rb x4, zl, zl, ec, z_b2s, z_b2s, ed, z_b2s, z_b2s, nI_1]
    by_cases h1 : sKe v T p (sPr v k) (rN v) < sKe v T p (sPr v (kx2 k)) (rN v)
    · have hP : ¬ Prs v T p o k = true := by unfold Prs; rw [decide_eq_true h1]; simp
      rw [bset_no1 hP] at ih2
      rw [if_pos h1]
      split <;> exact ih2
    · rw [if_neg h1]
      by_cases h2 : sKe v T o (sPr v k) (rN v) < sKe v T o (sPr v (kx1 k)) (rN v)
      · have hP : ¬ Prs v T p o k = true := by unfold Prs; rw [decide_eq_true h2]; simp
        rw [bset_no1 hP] at ih2
        rw [if_pos h2]; exact ih2
      · have hP : Prs v T p o k = true := by unfold Prs; rw [decide_eq_false h1, decide_eq_false h2]; rfl
        rw [if_neg h2, zl, bset_or (by omega) hP]; exact ih2
theorem pr_rests {r : zU} {T : zT} (hV : IV (r 1)) (hT : RLw (r 1) T) (p o : Nat) : ∀ d k fuel r2, k + d = 4 → d < fuel → r2 1 = r 1 → RF r r2 → ∃ r', f_X11_rests_46 fuel (nI p) (nI o) (nI (bset (Prs (r 1) T p o) k)) (nI k) r2 = some (nI (bset (Prs (r 1) T p o) 4), r') ∧ r' 1 = r 1 ∧ RF r r' := by
  intro d
  induction d with
  | zero =>
    intro k fuel r2 hk hf e2 F2
    obtain ⟨m, rfl⟩ : ∃ m, fuel = m + 1 := ⟨fuel - 1, by omega⟩
    obtain rfl : k = 4 := by omega
    rw [f_X11_rests_46_s, if_pos (show (4 : Int32) ≤ nI 4 by decide)]
    exact ⟨r2, rfl, e2, F2⟩
  | succ d ih =>
    intro k fuel r2 hk hf e2 F2
    obtain ⟨m, rfl⟩ : ∃ m, fuel = m + 1 := ⟨fuel - 1, by omega⟩
    have hk4 : k < 4 := by omega
    obtain ⟨-, -, -, -, x5, x6, x7, x8, x9, x10, x11, x12, x13, x14, x15⟩ := kx0 k hk4
    obtain ⟨ra, ea, ka, Fa⟩ := pr_keeps54 (r := r2) (T := T) (by rw [e2]; exact hV) (by rw [e2]; exact hT) p (sPr (r2 1) (kx2 k))
    rw [e2] at ea ka
    obtain ⟨rb, eb, kb, Fb⟩ := pr_keeps54 (r := ra) (T := T) (by rw [ka]; exact hV) (by rw [ka]; exact hT) p (sPr (ra 1) k)
    rw [ka] at eb kb
    obtain ⟨rc, ec, kc, Fc⟩ := pr_keeps54 (r := rb) (T := T) (by rw [kb]; exact hV) (by rw [kb]; exact hT) o (sPr (rb 1) (kx1 k))
    rw [kb] at ec kc
    obtain ⟨rd, ed, kd, Fd⟩ := pr_keeps54 (r := rc) (T := T) (by rw [kc]; exact hV) (by rw [kc]; exact hT) o (sPr (rc 1) k)
    rw [kc] at ed kd
    have ih2 := ih (k + 1) m
    rw [f_X11_rests_46_s, if_neg (show ¬ (4 : Int32) ≤ nI k from nI_ge (b := 4) hk4 (by decide)), x5, x6, zl, zl, x7, pr_keeps p x14 x13, e2, x9, ea, z_b2s, pr_keeps p x12 x13, ka, x11, eb, z_b2s, nI_1]
    by_cases h1 : sKe (r 1) T p (sPr (r 1) k) (rN (r 1)) < sKe (r 1) T p (sPr (r 1) (kx2 k)) (rN (r 1))
    · have hP : ¬ Prs (r 1) T p o k = true := by unfold Prs; rw [decide_eq_true h1]; simp
      rw [bset_no1 hP] at ih2
      rw [if_pos h1]; exact ih2 rb (by omega) (by omega) kb ((F2.tr Fa).tr Fb)
    · rw [if_neg h1, x8, pr_keeps o x12 x15, kb, x10, ec, z_b2s, pr_keeps o x12 x13, kc, x11, ed, z_b2s]
      by_cases h2 : sKe (r 1) T o (sPr (r 1) k) (rN (r 1)) < sKe (r 1) T o (sPr (r 1) (kx1 k)) (rN (r 1))
      · have hP : ¬ Prs (r 1) T p o k = true := by unfold Prs; rw [decide_eq_true h2]; simp
        rw [bset_no1 hP] at ih2
        rw [if_pos h2]; exact ih2 rd (by omega) (by omega) kd ((((F2.tr Fa).tr Fb).tr Fc).tr Fd)
      · have hP : Prs (r 1) T p o k = true := by unfold Prs; rw [decide_eq_false h1, decide_eq_false h2]; rfl
        rw [if_neg h2, zl, bset_or (by omega) hP]; exact ih2 rd (by omega) (by omega) kd ((((F2.tr Fa).tr Fb).tr Fc).tr Fd)
theorem s_rests {q : zq} {u r : zU} (h : RR q u r) (a b : Int32) : ∃ o q' u' x r', f_X10_rests q a b u = some (o, q', u') ∧ f_X11_rests a b r = some (x, r') ∧ RR q' u' r' ∧ ANS [(eIO, 1), (eIA, 2)] o x (r' 0 0) := by
  rcases need_p (q := q) (u := u) a r with ⟨p, hp, e1, e2, e3⟩ | ⟨e2, e3⟩
  · rcases need_p (q := q) (u := u) b r with ⟨o, ho, f1, f2, f3⟩ | ⟨f2, f3⟩
    · by_cases hab : a = b
      · have hc : f_X10_rests q a b u = some (.inl eIA, q, u) := by rw [f_X10_rests_e, e2, z_bxr, f2, z_bxr, if_pos hab]
        have hr : f_X11_rests a b r = some (0, z_up r 0 0 2) := by rw [f_X11_rests_e, zl, e3, if_pos rfl, zl, f3, if_pos rfl, if_pos hab, zl, t00, if_neg (by decide)]
        exact ⟨_, _, _, _, _, hc, hr, h.t 2, by simp [ANS, t00]⟩
      · obtain ⟨T, T', hb⟩ := h.t 0
        obtain ⟨⟨a1, a2, a3, a4⟩, a5, a6, a7, a8⟩ := hb.1
        obtain ⟨u', y1, R, C, F⟩ := pc_rests (q := q) (u := u) (T := T) a2 (a7.ap (i := 0) (by decide)) p o 4 0 5000 u rfl (by decide) a1 a3 Fr.rf
        obtain ⟨r', y2, k1, f2', f3', f4, f5, f00, f03, f06, f08, f012⟩ := pr_rests (r := z_up r 0 0 0) (T := T) a2 a4 p o 4 0 5000 _ rfl (by decide) rfl RF.rf
        have hc : f_X10_rests q a b u = some (.inr (nI (bset (Prs (r 1) T p o) 4)), q, u') := by rw [f_X10_rests_e, e2, z_bxr, f2, z_bxr, if_neg hab, e1, f1]; exact y1
        have hr : f_X11_rests a b r = some (nI (bset (Prs (r 1) T p o) 4), r') := by rw [f_X11_rests_e, zl, e3, if_pos rfl, zl, f3, if_pos rfl, if_neg hab, zl, t00, if_pos (by decide), e1, f1]; exact y2
        exact ⟨_, _, _, _, _, hc, hr, ⟨T, T', hb.tmp (w := 6) (Or.inl rfl) F R C k1 f2' f4 f5 f03 f06 f08 f012⟩, ⟨f00, rfl⟩⟩
    · have hc : f_X10_rests q a b u = some (.inl eIO, q, u) := by rw [f_X10_rests_e, e2, z_bxr, f2, z_bxl]
      have hr : f_X11_rests a b r = some (0, z_up r 0 0 1) := by rw [f_X11_rests_e, zl, e3, if_pos rfl, zl, f3, if_neg Bool.false_ne_true, zl, t00, if_neg (by decide)]
      exact ⟨_, _, _, _, _, hc, hr, h.t 1, by simp [ANS, t00]⟩
  · have hc : f_X10_rests q a b u = some (.inl eIO, q, u) := by rw [f_X10_rests_e, e2, z_bxl]
    have hr : f_X11_rests a b r = some (0, z_up r 0 0 1) := by rw [f_X11_rests_e, zl, e3, if_neg Bool.false_ne_true, zl, t00, if_neg (by decide)]
    exact ⟨_, _, _, _, _, hc, hr, h.t 1, by simp [ANS, t00]⟩
