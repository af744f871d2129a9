/-! PURE, 3: what changes the row: to queue, to get in; the row of those who wait -/
theorem upd_ne {f : Nat → Int32} {k j : Nat} {x : Int32} (h : j ≠ k) : upd f k x j = f j := if_neg h
theorem upd_eq {f : Nat → Int32} {k : Nat} {x : Int32} : upd f k x k = x := if_pos rfl
theorem z_up_st (u : zU) (r k : Nat) (x : Int32) : z_up u r k x = zst u r (upd (u r) k x) := rfl
theorem bcnt_up (P P' : Nat → Bool) {x : Nat} : ∀ N, (∀ r, r < N → r ≠ x → P' r = P r) → x < N → P x = false → P' x = true → bcnt P' N = bcnt P N + 1
  | 0, _, h, _, _ => by omega
  | N + 1, h, hx, h0, h1 => by
    rw [bcnt_s, bcnt_s]
    by_cases e : x = N
    · subst e
      rw [h0, h1, bcnt_ext x (fun k hk => h k (by omega) (by omega))]
      simp
    · rw [bcnt_up P P' N (fun r hr hn => h r (by omega) hn) (by omega) h0 h1, h N (by omega) (fun e2 => e e2.symm)]
      split <;> omega
theorem bcnt_lt (P : Nat → Bool) {x : Nat} : ∀ N, x < N → P x = false → bcnt P N < N
  | 0, h, _ => by omega
  | N + 1, h, h0 => by
    rw [bcnt_s]
    by_cases e : x = N
    · subst e
      have := bcnt_le P x
      rw [h0]; simp; omega
    · have := bcnt_lt P N (show x < N by omega) h0
      split <;> omega
/-- the rider x, who sits, waits as the last one -/
def sQ (v : Nat → Int32) (x : Nat) : Nat → Int32 := upd (upd (upd v (25 + 4 * x) (-1)) (57 + wN v) (nI x)) 10 (nI (wN v + 1))
theorem sQ_o {v : Nat → Int32} {x k : Nat} (h1 : k ≠ 25 + 4 * x) (h2 : k ≠ 57 + wN v) (h3 : k ≠ 10) : sQ v x k = v k := by
  unfold sQ; rw [upd_ne h3, upd_ne h2, upd_ne h1]
theorem sQ_p {v : Nat → Int32} {x : Nat} (hx : x < 8) : sQ v x (25 + 4 * x) = -1 := by
  unfold sQ; rw [upd_ne (by omega), upd_ne (by omega), upd_eq]
theorem sQ_r {v : Nat → Int32} {x : Nat} : sQ v x (57 + wN v) = nI x := by
  unfold sQ; rw [upd_ne (by omega), upd_eq]
theorem sQ_w {v : Nat → Int32} {x : Nat} : sQ v x 10 = nI (wN v + 1) := by
  unfold sQ; rw [upd_eq]
theorem IV.room {v : Nat → Int32} (h : IV v) {x : Nat} (hx : x < rN v) (hs : v (25 + 4 * x) ≠ -1) : wN v < rN v := by
  rw [h.wc]; exact bcnt_lt _ _ hx (decide_eq_false hs)
theorem IVb.ex {v v' : Nat → Int32} (h : IVb v) (he : ∀ k, k < 57 → k ≠ 10 → (∀ x, x < 8 → k ≠ 25 + 4 * x) → v' k = v k) : IVb v' := by
  obtain ⟨h1, h2, h3, h4, h5, h6⟩ := h
  refine ⟨fun r hr => ?_, ?_, ?_, ?_, ?_, ?_⟩
  · obtain ⟨a, b, c, d⟩ := h1 r hr
    rw [he (26 + 4 * r) (by omega) (by omega) (fun x _ => by omega), he (27 + 4 * r) (by omega) (by omega) (fun x _ => by omega), he (28 + 4 * r) (by omega) (by omega) (fun x _ => by omega), he (17 + r) (by omega) (by omega) (fun x _ => by omega)]
    exact ⟨a, b, c, d⟩
  · rw [he 5 (by omega) (by omega) (fun x _ => by omega)]; exact h2
  · rw [he 6 (by omega) (by omega) (fun x _ => by omega)]; exact h3
  · rw [he 7 (by omega) (by omega) (fun x _ => by omega)]; exact h4
  · rw [he 8 (by omega) (by omega) (fun x _ => by omega)]; exact h5
  · rw [he 9 (by omega) (by omega) (fun x _ => by omega)]; exact h6
theorem rN_of {v v' : Nat → Int32} (h : v' 3 = v 3) : rN v' = rN v := by unfold rN; rw [h]
theorem tP_of {v v' : Nat → Int32} (h : v' 4 = v 4) : tP v' = tP v := by unfold tP; rw [h]
theorem wN_of {v' : Nat → Int32} {k : Nat} (h : v' 10 = nI k) (hk : k < 2 ^ 31) : wN v' = k := by unfold wN; rw [h]; exact nI_clamp hk
theorem IV.q {v : Nat → Int32} (h : IV v) {x : Nat} (hx : x < rN v) (hs : v (25 + 4 * x) ≠ -1) : IV (sQ v x) ∧ rN (sQ v x) = rN v := by
  have h8 := h.n8
  have hw := h.room hx hs
  have e3 : sQ v x 3 = v 3 := sQ_o (by omega) (by omega) (by omega)
  have e4 : sQ v x 4 = v 4 := sQ_o (by omega) (by omega) (by omega)
  have eN := rN_of e3
  have eT := tP_of e4
  have eW : wN (sQ v x) = wN v + 1 := wN_of sQ_w (by omega)
  have hpl : ∀ r, r < rN v → r ≠ x → sQ v x (25 + 4 * r) = v (25 + 4 * r) := fun r hr hn => sQ_o (by omega) (by omega) (by omega)
  have hro : ∀ i, i < wN v → sQ v x (57 + i) = v (57 + i) := fun i hi => sQ_o (by omega) (by omega) (by omega)
  obtain ⟨c1, c2, c3⟩ := h.2.2
  refine ⟨⟨⟨⟨?_, by rw [eN]; exact h8⟩, ⟨?_, by rw [eT]; exact h.t8⟩, ⟨?_, ?_⟩, ?_⟩, h.2.1.ex (fun k h1 h2 h3 => sQ_o (h3 x (by omega)) (by omega) h2), ?_, ?_, ?_⟩, eN⟩
  · rw [e3, eN]; exact h.n
  · rw [e4, eT]; exact h.t
  · rw [eW]; exact sQ_w
  · rw [eW, eN, h.wc]
    refine (bcnt_up _ _ (x := x) _ (fun r hr hn => ?_) hx (decide_eq_false hs) ?_).symm
    · rw [hpl r hr hn]
    · rw [sQ_p (by omega)]; rfl
  · intro r hr
    rw [eN] at hr
    by_cases e : r = x
    · subst e; exact Or.inl (sQ_p (by omega))
    · rw [hpl r hr e]; exact h.pl hr
  · intro i hi
    rw [eW] at hi
    rw [eN]
    by_cases e : i = wN v
    · subst e; exact ⟨x, hx, sQ_r, sQ_p (by omega)⟩
    · obtain ⟨y, y1, y2, y3⟩ := c1 i (by omega)
      refine ⟨y, y1, by rw [hro i (by omega)]; exact y2, ?_⟩
      by_cases e2 : y = x
      · subst e2; exact sQ_p (by omega)
      · rw [hpl y y1 e2]; exact y3
  · have hne : ∀ i, i < wN v → v (57 + i) ≠ nI x := fun i hi hq => by
      obtain ⟨y, y1, y2, y3⟩ := c1 i hi
      rw [y2, nI_eq (by omega) (by omega)] at hq
      subst hq
      exact hs y3
    intro i j hi hj hij
    rw [eW] at hi hj
    by_cases ei : i = wN v
    · by_cases ej : j = wN v
      · omega
      · subst ei
        rw [sQ_r, hro j (by omega)] at hij
        exact absurd hij.symm (hne j (by omega))
    · by_cases ej : j = wN v
      · subst ej
        rw [sQ_r, hro i (by omega)] at hij
        exact absurd hij (hne i (by omega))
      · rw [hro i (by omega), hro j (by omega)] at hij
        exact c2 i j (by omega) (by omega) hij
  · intro y hy hp
    rw [eN] at hy
    rw [eW]
    by_cases e : y = x
    · subst e; exact ⟨wN v, by omega, sQ_r⟩
    · rw [hpl y hy e] at hp
      obtain ⟨i, i1, i2⟩ := c3 y hy hp
      exact ⟨i, by omega, by rw [hro i i1]; exact i2⟩
theorem pr_put {u : zU} {x j : Nat} (y : Int32) (hx : x < 8) (hj : j < 4) : f_X11_put (nI x) (nI j) y u = some (zst u 1 (upd (u 1) (25 + 4 * x + j) y)) := by
  rw [f_X11_put_e, show ((25 : Int32) + (4 : Int32) * nI x) + nI j = nI (25 + 4 * x + j) by rw [pu_lit 25, pu_lit 4, pu_mul, nI_add, nI_add], if_pos (pu_in (by omega) (by decide))]
  simp only [z_let, nI_clamp (show 25 + 4 * x + j < 2 ^ 31 by omega)]
  rfl
theorem pr_put0 {u : zU} {x : Nat} (y : Int32) (hx : x < 8) : f_X11_put (nI x) 0 y u = some (zst u 1 (upd (u 1) (25 + 4 * x) y)) := pr_put (j := 0) y hx (by decide)
theorem pr_put1 {u : zU} {x : Nat} (y : Int32) (hx : x < 8) : f_X11_put (nI x) 1 y u = some (zst u 1 (upd (u 1) (26 + 4 * x) y)) := by rw [show 26 + 4 * x = 25 + 4 * x + 1 by omega]; exact pr_put (j := 1) y hx (by decide)
theorem pr_put2 {u : zU} {x : Nat} (y : Int32) (hx : x < 8) : f_X11_put (nI x) 2 y u = some (zst u 1 (upd (u 1) (27 + 4 * x) y)) := by rw [show 27 + 4 * x = 25 + 4 * x + 2 by omega]; exact pr_put (j := 2) y hx (by decide)
theorem pr_put3 {u : zU} {x : Nat} (y : Int32) (hx : x < 8) : f_X11_put (nI x) 3 y u = some (zst u 1 (upd (u 1) (28 + 4 * x) y)) := by rw [show 28 + 4 * x = 25 + 4 * x + 3 by omega]; exact pr_put (j := 3) y hx (by decide)
theorem pr_queues0 {u : zU} {x : Nat} (hx : x < 8) (hw : u 1 10 = nI (wN (u 1))) (hw8 : wN (u 1) < 8) : f_X11_queues (nI x) u = some (zst u 1 (sQ (u 1) x)) := by
  rw [f_X11_queues_e, pr_put0 _ hx]
  simp only [Option.bind_some, zst_e]
  rw [upd_ne (show 10 ≠ 25 + 4 * x by omega), hw, pu_l57, if_pos (pu_in (by omega) (by decide))]
  simp only [z_let, nI_clamp (show 57 + wN (u 1) < 2 ^ 31 by omega), z_up_st, zst_zst, zst_e]
  rw [upd_ne (show 10 ≠ 57 + wN (u 1) by omega), upd_ne (show 10 ≠ 25 + 4 * x by omega), hw, nI_1]
  rfl
theorem pr_queues {u : zU} (hV : IV (u 1)) {x : Nat} (hx : x < rN (u 1)) (hs : u 1 (25 + 4 * x) ≠ -1) : f_X11_queues (nI x) u = some (zst u 1 (sQ (u 1) x)) := by
  have h8 := hV.n8
  have := hV.room hx hs
  exact pr_queues0 (by omega) hV.w (by omega)
/-- what a wheel's method may change besides the wheel: nothing but its law's results -/
def Fr (w : Nat) (L : Nat → Nat) (u u' : zU) : Prop := ∀ r, ¬ (w ≤ r ∧ r < w + 9) → r ≠ L 7 → u' r = u r
theorem Fr.rf {w : Nat} {L : Nat → Nat} {u : zU} : Fr w L u u := fun _ _ _ => rfl
theorem Fr.tr {w : Nat} {L : Nat → Nat} {u u1 u2 : zU} (h : Fr w L u u1) (h2 : Fr w L u1 u2) : Fr w L u u2 := fun r a b => (h2 r a b).trans (h r a b)
theorem Fr.up {w : Nat} {L : Nat → Nat} {u u1 : zU} (h : Fr w L u u1) {r k : Nat} {x : Int32} (hr : w ≤ r ∧ r < w + 9) : Fr w L u (z_up u1 r k x) := fun r' a b => by
  have e : r' ≠ r := fun e => a (by subst e; exact hr)
  rw [z_up_ne e]; exact h r' a b
/-- what a wheel's method that asks no law may change: the wheel alone -/
def Fw (w : Nat) (u u' : zU) : Prop := ∀ r, ¬ (w ≤ r ∧ r < w + 9) → u' r = u r
theorem Fw.rf {w : Nat} {u : zU} : Fw w u u := fun _ _ => rfl
theorem Fw.tr {w : Nat} {u u1 u2 : zU} (h : Fw w u u1) (h2 : Fw w u1 u2) : Fw w u u2 := fun r a => (h2 r a).trans (h r a)
theorem Fw.up {w : Nat} {u u1 : zU} (h : Fw w u u1) {r k : Nat} {x : Int32} (hr : w ≤ r ∧ r < w + 9) : Fw w u (z_up u1 r k x) := fun r' a => by
  have e : r' ≠ r := fun e => a (by subst e; exact hr)
  rw [z_up_ne e]; exact h r' a
theorem Fw.f {w : Nat} {L : Nat → Nat} {u u1 : zU} (h : Fw w u u1) : Fr w L u u1 := fun r a _ => h r a
theorem pc_getOff0 {u : zU} {w : Nat} {v : Nat → Int32} (hR : RW u w v) (L : Nat → Nat) {x : Nat} (hx : x < 8) (hw : v 10 = nI (wN v)) (hw8 : wN v < 8) : ∃ u', f_X9_getOff w L (nI x) u = some u' ∧ RW u' w (sQ v x) ∧ Fw w u u' ∧ (∀ j, 17 ≤ j → u' w j = u w j) := by
  refine ⟨z_up (z_up (z_up u (w + 1) x (-1)) (w + 5) (wN v) (nI x)) w 9 (nI (wN v + 1)), ?_, ?_, ?_, ?_⟩
  · have e9 : (z_up u (w + 1) x (-1)) w 9 = nI (wN v) := by rw [z_up_ne (by omega), hR.s9, hw]
    rw [f_X9_getOff_e, pu_and7 x hx, if_pos (pu_in hx (by decide))]
    simp only [z_let, nI_clamp (show x < 2 ^ 31 by omega), e9]
    rw [if_neg (show ¬ (8 : Int32) ≤ nI (wN v) from nI_ge (b := 8) hw8 (by decide)), if_pos (pu_in hw8 (by decide)), nI_clamp (by omega)]
    rw [z_up_ne (show w ≠ w + 5 by omega), e9, nI_1]
  · have h1 := ((hR.up (kap_1 x hx).1 (-1)).up (kap_1 (wN v) hw8).2.2.2.2.1 (nI x)).u9 (nI (wN v + 1))
    exact h1
  · exact ((Fw.rf.up (by omega)).up (by omega)).up (by omega)
  · intro j hj
    rw [z_up_eq, upd_ne (by omega), z_up_ne (by omega), z_up_ne (by omega)]
theorem pc_getOff {u : zU} {w : Nat} {v : Nat → Int32} (hR : RW u w v) (hV : IV v) (L : Nat → Nat) {x : Nat} (hx : x < rN v) (hs : v (25 + 4 * x) ≠ -1) : ∃ u', f_X9_getOff w L (nI x) u = some u' ∧ RW u' w (sQ v x) ∧ Fw w u u' ∧ (∀ j, 17 ≤ j → u' w j = u w j) := by
  have h8 := hV.n8
  have := hV.room hx hs
  exact pc_getOff0 hR L (by omega) hV.w (by omega)
