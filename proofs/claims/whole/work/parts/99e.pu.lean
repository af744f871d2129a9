/-! PURE, 54: one more rider in the row -/
theorem IV.add {v : Nat → Int32} (h : IV v) (hx : rN v < 8) {c : Nat} (hc : c < 8) : IV (upd (upd v (25 + 4 * rN v) (nI c)) 3 (nI (rN v + 1))) ∧ rN (upd (upd v (25 + 4 * rN v) (nI c)) 3 (nI (rN v + 1))) = rN v + 1 := by
  have hw := h.w8
  have hN := h.n
  have hm : nI c ≠ -1 := pu_m1 (by omega)
  obtain ⟨c1, c2, c3⟩ := h.2.2
  have e0 : ∀ k, k ≠ 3 → k ≠ 25 + 4 * rN v → upd (upd v (25 + 4 * rN v) (nI c)) 3 (nI (rN v + 1)) k = v k := fun k a b => by rw [upd_ne a, upd_ne b]
  have ex : upd (upd v (25 + 4 * rN v) (nI c)) 3 (nI (rN v + 1)) (25 + 4 * rN v) = nI c := by rw [upd_ne (by omega), upd_eq]
  have e3 : upd (upd v (25 + 4 * rN v) (nI c)) 3 (nI (rN v + 1)) 3 = nI (rN v + 1) := upd_eq
  generalize upd (upd v (25 + 4 * rN v) (nI c)) 3 (nI (rN v + 1)) = v' at e0 ex e3 ⊢
  have eN : rN v' = rN v + 1 := by unfold rN at *; rw [e3]; exact nI_clamp (by omega)
  have e4 := e0 4 (by omega) (by omega)
  have e10 := e0 10 (by omega) (by omega)
  have eT := tP_of e4
  have eW : wN v' = wN v := by unfold wN; rw [e10]
  have epl : ∀ r, r ≠ rN v → v' (25 + 4 * r) = v (25 + 4 * r) := fun r hr => e0 _ (by omega) (by omega)
  have ero : ∀ i, i < 8 → v' (57 + i) = v (57 + i) := fun i hi => e0 _ (by omega) (by omega)
  refine ⟨⟨⟨⟨by rw [e3, eN], by omega⟩, ⟨by rw [e4, eT]; exact h.t, by rw [eT]; exact h.t8⟩, ⟨by rw [e10, eW]; exact h.w, ?_⟩, fun r hr => ?_⟩, ?_, fun i hi => ?_, fun i j hi hj hij => ?_, fun y hy hp => ?_⟩, eN⟩
  · rw [eW, eN, bcnt_s, ex, decide_eq_false hm, if_neg Bool.false_ne_true, h.wc]
    exact bcnt_ext _ (fun k hk => by rw [epl k (by omega)])
  · rw [eN] at hr
    by_cases e : r = rN v
    · subst e; exact Or.inr ⟨c, hc, ex⟩
    · rw [epl r e]; exact h.pl (by omega)
  · obtain ⟨a1, a2, a3, a4, a5, a6⟩ := h.2.1
    refine ⟨fun r hr => ?_, ?_, ?_, ?_, ?_, ?_⟩
    · rw [e0 (26 + 4 * r) (by omega) (by omega), e0 (27 + 4 * r) (by omega) (by omega), e0 (28 + 4 * r) (by omega) (by omega), e0 (17 + r) (by omega) (by omega)]; exact a1 r hr
    · rw [e0 5 (by omega) (by omega)]; exact a2
    · rw [e0 6 (by omega) (by omega)]; exact a3
    · rw [e0 7 (by omega) (by omega)]; exact a4
    · rw [e0 8 (by omega) (by omega)]; exact a5
    · rw [e0 9 (by omega) (by omega)]; exact a6
  · rw [eW] at hi
    obtain ⟨y, y1, y2, y3⟩ := c1 i hi
    exact ⟨y, by omega, by rw [ero i (by omega)]; exact y2, by rw [epl y (by omega)]; exact y3⟩
  · rw [eW] at hi hj
    rw [ero i (by omega), ero j (by omega)] at hij
    exact c2 i j hi hj hij
  · rw [eN] at hy
    have hyx : y ≠ rN v := fun e => by subst e; rw [ex] at hp; exact hm hp
    rw [epl y hyx] at hp
    obtain ⟨i, i1, i2⟩ := c3 y (by omega) hp
    exact ⟨i, by rw [eW]; exact i1, by rw [ero i (by omega)]; exact i2⟩
/-- the three numbers of a new rider -/
def s3 (v : Nat → Int32) (w p s : Int32) : Nat → Int32 := upd (upd (upd v (26 + 4 * rN v) w) (27 + 4 * rN v) p) (28 + 4 * rN v) s
theorem s3_o {v : Nat → Int32} {w p s : Int32} {k : Nat} (h1 : k ≠ 26 + 4 * rN v) (h2 : k ≠ 27 + 4 * rN v) (h3 : k ≠ 28 + 4 * rN v) : s3 v w p s k = v k := by
  unfold s3; rw [upd_ne h3, upd_ne h2, upd_ne h1]
theorem s3_w {v : Nat → Int32} {w p s : Int32} : s3 v w p s (26 + 4 * rN v) = w := by
  unfold s3; rw [upd_ne (by omega), upd_ne (by omega), upd_eq]
theorem s3_IV {v : Nat → Int32} (h : IV v) (hx : rN v < 8) {w p s : Int32} (hw : sm w 9) (hp : sm p 999) (hs : sm s 3) : IV (s3 v w p s) ∧ rN (s3 v w p s) = rN v := by
  obtain ⟨a1, a2, -⟩ := h.u (k := 26 + 4 * rN v) (y := w) (by omega) (fun r _ => by omega) ⟨fun r _ _ => hw, fun r _ e => by omega, fun r _ e => by omega, fun r _ e => by omega, fun e => by omega, fun e => by omega, fun e => by omega, fun e => by omega, fun e => by omega⟩
  obtain ⟨b1, b2, -⟩ := a1.u (k := 27 + 4 * rN v) (y := p) (by omega) (fun r _ => by omega) ⟨fun r _ e => by omega, fun r _ _ => hp, fun r _ e => by omega, fun r _ e => by omega, fun e => by omega, fun e => by omega, fun e => by omega, fun e => by omega, fun e => by omega⟩
  obtain ⟨c1, c2, -⟩ := b1.u (k := 28 + 4 * rN v) (y := s) (by omega) (fun r _ => by omega) ⟨fun r _ e => by omega, fun r _ e => by omega, fun r _ _ => hs, fun r _ e => by omega, fun e => by omega, fun e => by omega, fun e => by omega, fun e => by omega, fun e => by omega⟩
  exact ⟨c1, c2.trans (b2.trans a2)⟩
/-- a rider more, in the cradle c -/
def sEc (v : Nat → Int32) (w p s c : Int32) : Nat → Int32 := upd (upd (s3 v w p s) (25 + 4 * rN v) c) 3 (nI (rN v + 1))
/-- a rider more, who waits -/
def sEq (v : Nat → Int32) (w p s : Int32) : Nat → Int32 := upd (sQ (s3 v w p s) (rN v)) 3 (nI (rN v + 1))
theorem sEc_IV {v : Nat → Int32} (h : IV v) (hx : rN v < 8) {w p s : Int32} (hw : sm w 9) (hp : sm p 999) (hs : sm s 3) {c : Nat} (hc : c < 8) : IV (sEc v w p s (nI c)) ∧ rN (sEc v w p s (nI c)) = rN v + 1 := by
  obtain ⟨a1, a2⟩ := s3_IV h hx hw hp hs
  have := a1.add (by rw [a2]; exact hx) hc
  rw [a2] at this
  exact this
theorem sEc_CAP {v : Nat → Int32} (h : IV v) (hC : CAP v) (hx : rN v < 8) {w p s : Int32} (hw : sm w 9) (hw1 : 1 ≤ w) (hp : sm p 999) (hs : sm s 3) {c : Int32} (ho : ∀ d, d < 8 → c = nI d → bcnt (Pin v (nI d)) (rN v) < 2) (hN : rN (sEc v w p s c) = rN v + 1) : CAP (sEc v w p s c) := by
  have e0 : ∀ r, r < rN v → sEc v w p s c (25 + 4 * r) = v (25 + 4 * r) ∧ sEc v w p s c (26 + 4 * r) = v (26 + 4 * r) := fun r hr => by
    unfold sEc
    rw [upd_ne (by omega), upd_ne (by omega), s3_o (by omega) (by omega) (by omega), upd_ne (by omega), upd_ne (by omega), s3_o (by omega) (by omega) (by omega)]
    exact ⟨rfl, rfl⟩
  have ex : sEc v w p s c (25 + 4 * rN v) = c := by unfold sEc; rw [upd_ne (by omega), upd_eq]
  have ew : sEc v w p s c (26 + 4 * rN v) = w := by unfold sEc; rw [upd_ne (by omega), upd_ne (by omega), s3_w]
  refine ⟨fun d hd => ?_, fun r hr => ?_⟩
  · rw [hN, bcnt_s, bcnt_ext (P' := Pin v (nI d)) _ (fun k hk => by unfold Pin; rw [(e0 k hk).1])]
    have h2 := hC.1 d hd
    by_cases e : c = nI d
    · have h3 := ho d hd e
      split <;> omega
    · rw [if_neg (by unfold Pin; rw [ex, decide_eq_false e]; exact Bool.false_ne_true)]
      exact h2
  · rw [hN] at hr
    by_cases e : r = rN v
    · rw [e, ew]; exact hw1
    · rw [(e0 r (by omega)).2]; exact hC.2 r (by omega)
theorem sEq_e {v : Nat → Int32} {w p s c : Int32} : sQ (sEc v w p s c) (rN v) = sEq v w p s := by
  have hW : wN (sEc v w p s c) = wN (s3 v w p s) := by
    unfold wN sEc
    rw [upd_ne (by omega), upd_ne (by omega)]
  unfold sEq
  unfold sQ
  rw [hW]
  generalize wN (s3 v w p s) = W
  unfold sEc
  generalize s3 v w p s = z
  funext k
  by_cases h10 : k = 10
  · subst h10; rw [upd_eq, upd_ne (by omega), upd_eq]
  · rw [upd_ne h10]
    by_cases h57 : k = 57 + W
    · subst h57; rw [upd_eq, upd_ne (by omega), upd_ne (by omega), upd_eq]
    · rw [upd_ne h57]
      by_cases h25 : k = 25 + 4 * rN v
      · subst h25; rw [upd_eq, upd_ne (by omega), upd_ne (by omega), upd_ne (by omega), upd_eq]
      · rw [upd_ne h25]
        by_cases h3 : k = 3
        · subst h3; rw [upd_eq, upd_eq]
        · rw [upd_ne h3, upd_ne h25, upd_ne h3, upd_ne h10, upd_ne h57, upd_ne h25]
theorem sEq_IV {v : Nat → Int32} (h : IV v) (hx : rN v < 8) {w p s : Int32} (hw : sm w 9) (hp : sm p 999) (hs : sm s 3) : IV (sEq v w p s) ∧ rN (sEq v w p s) = rN v + 1 := by
  obtain ⟨a1, a2⟩ := sEc_IV h hx hw hp hs (c := 0) (by decide)
  have ex : sEc v w p s (nI 0) (25 + 4 * rN v) = nI 0 := by unfold sEc; rw [upd_ne (by omega), upd_eq]
  obtain ⟨b1, b2⟩ := a1.q (x := rN v) (by omega) (by rw [ex]; decide)
  rw [sEq_e] at b1 b2
  exact ⟨b1, b2.trans a2⟩
theorem sEq_CAP {v : Nat → Int32} (h : IV v) (hC : CAP v) (hx : rN v < 8) {w p s : Int32} (hw : sm w 9) (hw1 : 1 ≤ w) (hp : sm p 999) (hs : sm s 3) : CAP (sEq v w p s) := by
  have hN := (sEq_IV h hx hw hp hs).2
  have e1 : rN (sEc v w p s (-1)) = rN v + 1 := by unfold rN; rw [show sEc v w p s (-1) 3 = nI (rN v + 1) from upd_eq]; exact nI_clamp (by omega)
  have hC2 := sEc_CAP h hC hx hw hw1 hp hs (c := -1) (fun d hd e => absurd e.symm (pu_m1 (by omega))) e1
  refine hC2.ex (by rw [hN, e1]) (fun r hr => ?_)
  have hw8 := h.w8
  have eW : wN (sEc v w p s (-1)) = wN v := by
    unfold wN sEc
    rw [upd_ne (by omega), upd_ne (by omega), s3_o (by omega) (by omega) (by omega)]
  rw [e1] at hr
  rw [← sEq_e (c := -1)]
  constructor
  · by_cases e : r = rN v
    · subst e
      rw [sQ_p (by omega)]
      unfold sEc; rw [upd_ne (by omega), upd_eq]
    · exact sQ_o (by omega) (by omega) (by omega)
  · exact sQ_o (by omega) (by omega) (by omega)
theorem upd_cm {f : Nat → Int32} {k j : Nat} {a b : Int32} (h : k ≠ j) : upd (upd f k a) j b = upd (upd f j b) k a := by
  funext i
  by_cases e1 : i = j
  · subst e1; rw [upd_eq, upd_ne (fun e => h e.symm), upd_eq]
  · rw [upd_ne e1]
    by_cases e2 : i = k
    · subst e2; rw [upd_eq, upd_eq]
    · rw [upd_ne e2, upd_ne e2, upd_ne e1]
theorem sEc_c {v : Nat → Int32} {w p s c : Int32} : upd (upd (upd (upd (upd v 3 (nI (rN v + 1))) (26 + 4 * rN v) w) (27 + 4 * rN v) p) (28 + 4 * rN v) s) (25 + 4 * rN v) c = sEc v w p s c := by
  unfold sEc s3
  rw [upd_cm (k := 3) (j := 26 + 4 * rN v) (by omega), upd_cm (k := 3) (j := 27 + 4 * rN v) (by omega), upd_cm (k := 3) (j := 28 + 4 * rN v) (by omega), upd_cm (k := 3) (j := 25 + 4 * rN v) (by omega)]
/-- the class's taking in of a rider -/
theorem pc_enlist {u : zU} {v : Nat → Int32} (hR : RW u 17 v) (hV : IV v) (hx : rN v < 8) (L : Nat → Nat) (w p s : Int32) :
    (∀ c, c < 8 → ∃ u', f_X9_enlist 17 L w p s (nI c) u = some u' ∧ RW u' 17 (sEc v w p s (nI c)) ∧ ∀ r, ¬ (17 ≤ r ∧ r < 26) → u' r = u r) ∧ ∃ u', f_X9_enlist 17 L w p s (-1) u = some u' ∧ RW u' 17 (sEq v w p s) ∧ ∀ r, ¬ (17 ≤ r ∧ r < 26) → u' r = u r := by
  have hin := pu_in hx (show 8 < 2 ^ 31 by decide)
  have hk := kap_1 (rN v) hx
  have main : ∀ c : Int32, f_X9_enlist 17 L w p s c u = (if c = (-1 : Int32) then ((f_X9_getOff 17 L (nI (rN v)) (z_up (z_up (z_up (z_up (z_up u 17 8 (nI (rN v + 1))) (17 + 2) (rN v) w) (17 + 3) (rN v) p) (17 + 4) (rN v) s) (17 + 1) (rN v) c)).bind (fun u7 => some u7)) else (some (z_up (z_up (z_up (z_up (z_up u 17 8 (nI (rN v + 1))) (17 + 2) (rN v) w) (17 + 3) (rN v) p) (17 + 4) (rN v) s) (17 + 1) (rN v) c))) ∧ RW (z_up (z_up (z_up (z_up (z_up u 17 8 (nI (rN v + 1))) (17 + 2) (rN v) w) (17 + 3) (rN v) p) (17 + 4) (rN v) s) (17 + 1) (rN v) c) 17 (sEc v w p s c) := by
    intro c
    constructor
    · rw [f_X9_enlist_e, hR.s8, hV.n, if_pos (show nI (rN v) < 8 from nI_lt (b := 8) hx (by decide)), zl, zl, nI_1, if_pos hin, zl, if_pos hin, zl, if_pos hin, zl, if_pos hin, zl, nI_clamp (by omega)]
    · rw [← sEc_c]
      exact ((((hR.u8 _).up hk.2.1 w).up hk.2.2.1 p).up hk.2.2.2.1 s).up hk.1 c
  have hfr : ∀ c r, ¬ (17 ≤ r ∧ r < 26) → (z_up (z_up (z_up (z_up (z_up u 17 8 (nI (rN v + 1))) (17 + 2) (rN v) w) (17 + 3) (rN v) p) (17 + 4) (rN v) s) (17 + 1) (rN v) c) r = u r := fun c r hr => by
    rw [z_up_ne (by omega), z_up_ne (by omega), z_up_ne (by omega), z_up_ne (by omega), z_up_ne (by omega)]
  constructor
  · intro c hc
    obtain ⟨e1, e2⟩ := main (nI c)
    rw [if_neg (pu_m1 (by omega))] at e1
    exact ⟨_, e1, e2, hfr _⟩
  · obtain ⟨e1, e2⟩ := main (-1)
    rw [if_pos rfl] at e1
    have hw8 := hV.w8
    have eW : wN (sEc v w p s (-1)) = wN v := by
      unfold wN sEc
      rw [upd_ne (by omega), upd_ne (by omega), s3_o (by omega) (by omega) (by omega)]
    obtain ⟨u', e3, e4, e5, -⟩ := pc_getOff0 e2 L hx (by rw [eW]; unfold sEc; rw [upd_ne (by omega), upd_ne (by omega), s3_o (by omega) (by omega) (by omega)]; exact hV.w) (by omega)
    rw [sEq_e] at e4
    rw [e3, Option.bind_some] at e1
    exact ⟨u', e1, e4, fun r hr => (e5 r (by omega)).trans (hfr _ r hr)⟩
/-- the reference's -/
theorem pr_enl {u : zU} (hV : IV (u 1)) (hx : rN (u 1) < 8) (w p s : Int32) (K : Int32 → zU → Option zU) : (z_let (u 1 3) (fun z58 => (f_X11_put z58 (1 : Int32) w u).bind (fun u59 => (f_X11_put z58 (2 : Int32) p u59).bind (fun u60 => (f_X11_put z58 (3 : Int32) s u60).bind (fun u61 => K z58 u61))))) = K (nI (rN (u 1))) (zst u 1 (s3 (u 1) w p s)) := by
  rw [zl, hV.n, pr_put1 _ hx, Option.bind_some, pr_put2 _ hx, Option.bind_some, pr_put3 _ hx, Option.bind_some, zst_e, zst_zst, zst_e, zst_zst]
  rfl
theorem pr_enq {u : zU} (hV : IV (u 1)) (hx : rN (u 1) < 8) {w p s : Int32} (hw : sm w 9) (hp : sm p 999) (hs : sm s 3) : ((f_X11_queues (nI (rN (u 1))) (zst u 1 (s3 (u 1) w p s))).bind (fun u70 => z_let (z_up u70 1 3 ((u70 1 3) + (1 : Int32))) (fun u71 => some u71))) = some (zst u 1 (sEq (u 1) w p s)) := by
  obtain ⟨a1, a2⟩ := s3_IV hV hx hw hp hs
  have hw8 := hV.w8
  have eW : wN (s3 (u 1) w p s) = wN (u 1) := by
    unfold wN
    rw [s3_o (by omega) (by omega) (by omega)]
  rw [pr_queues0 hx (by rw [zst_e]; exact a1.w) (by rw [zst_e, eW]; omega), Option.bind_some, zl, zst_e, zst_zst, z_up_st, zst_e, zst_zst, sQ_o (by omega) (by omega) (by omega), s3_o (by omega) (by omega) (by omega), hV.n, nI_1]
  rfl
theorem pr_enc {u : zU} (hV : IV (u 1)) (hx : rN (u 1) < 8) (w p s : Int32) (c : Int32) : ((f_X11_put (nI (rN (u 1))) (0 : Int32) c (zst u 1 (s3 (u 1) w p s))).bind (fun u89 => z_let (z_up u89 1 3 ((u89 1 3) + (1 : Int32))) (fun u90 => some u90))) = some (zst u 1 (sEc (u 1) w p s c)) := by
  rw [pr_put0 _ hx, Option.bind_some, zl, zst_e, zst_zst, z_up_st, zst_e, zst_zst, upd_ne (by omega), s3_o (by omega) (by omega) (by omega), hV.n, nI_1]
  rfl
