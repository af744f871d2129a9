/-! PURE, 25: ahead, trial, span, round -/
theorem s_ahead {q : zq} {u r : zU} (h : RR q u r) (a b c : Int32) : ∃ o q' u' x r', f_X10_ahead q a b c u = some (o, q', u') ∧ f_X11_ahead a b c r = some (x, r') ∧ RR q' u' r' ∧ ANS [(eIA, 1), (eNS, 2)] o x (r' 0 0) := by
  have hV := h.iv
  rcases need_d (q := q) h.rw hV a r rfl with ⟨e, he8, f0, f1, f2, f3⟩ | ⟨f2, f3⟩
  · rcases need_n (q := q) (u := u) b 0 100 r with ⟨l1, l2, k2, k3⟩ | ⟨k2, k3⟩
    · rcases isIn_t (a := c) (m := 2) (n := 2) rfl (by decide) r with ⟨j, hj, e5, hin⟩ | ⟨hne, hin⟩
      · obtain ⟨T, T', hb⟩ := h.t 0
        obtain ⟨N, hN, rfl⟩ := nI_of (show ¬ b < 0 by lia)
        have hN1 : N ≤ 100 := (nI_leI (b := 100) hN (by decide)).mp l2
        obtain ⟨r1, y, u', r', g1, g2, g3, g4⟩ := p_goAhead hb he8 hN1 f1
        have hV4 := g4.1.2.1
        obtain ⟨r2, w1, w2, w3, -⟩ := SPx.fin hb g4
        have e1 : zup q 1 (q 0) 1 = q 0 := zup_e
        have hc0 : ¬ c < 0 := by rw [e5]; exact nI_pos (by omega)
        have hc2 : c ≤ 2 := by rw [e5]; exact nI_le (b := 2) hj (by decide)
        have hc : f_X10_ahead q a (nI N) c u = some (.inr (if c = 0 then r' 1 4 else if c = 1 then sFirst (r' 1) (r' 1 4) else r' 1 6), zup q 1 (q 0), u') := by
          rw [f_X10_ahead_e, f2, z_bxr, k2, z_bxr, if_neg hc0, if_pos hc2, f0, g2, z_b3s, g4.1.1.s14, g4.1.1.s11, e1, pc_firstIn g4.1.1 hV4, Option.bind_some]
          split
          · rfl
          · split <;> rfl
        have hr : f_X11_ahead a (nI N) c r = some ((if c = 0 then r' 1 4 else if c = 1 then sFirst (r' 1) (r' 1 4) else r' 1 6), r2) := by
          rw [f_X11_ahead_e, zl, f3, if_pos rfl, zl, k3, if_pos rfl, zl, hin, if_pos rfl, zl, t00, if_pos (by decide), g1, Option.bind_some, f0, g3, z_b2s, w1, pr_governor hV4]
          split
          · rw [zl, Option.bind_some]
          · split
            · rw [Option.bind_some, Option.bind_some]
            · rw [zl, Option.bind_some]
        exact ⟨_, _, _, _, _, hc, hr, ⟨T, T', w2⟩, ⟨w3, rfl⟩⟩
      · have hc : f_X10_ahead q a b c u = some (.inl eNS, q, u) := by
          rw [f_X10_ahead_e, f2, z_bxr, k2, z_bxr]
          by_cases hc0 : c < 0
          · rw [if_pos hc0]
          · rw [if_neg hc0, if_neg (fun q => by
              obtain ⟨m, hm, rfl⟩ := nI_of hc0
              exact hne m ((nI_leI (b := 2) hm (by decide)).mp q) rfl)]
        have hr : f_X11_ahead a b c r = some (0, z_up r 0 0 2) := by rw [f_X11_ahead_e, zl, f3, if_pos rfl, zl, k3, if_pos rfl, zl, hin, if_neg Bool.false_ne_true, zl, t00, if_neg (by decide)]
        exact ⟨_, _, _, _, _, hc, hr, h.t 2, by simp [ANS, t00]⟩
    · have hc : f_X10_ahead q a b c u = some (.inl eIA, q, u) := by rw [f_X10_ahead_e, f2, z_bxr, k2, z_bxl]
      have hr : f_X11_ahead a b c r = some (0, z_up r 0 0 1) := by rw [f_X11_ahead_e, zl, f3, if_pos rfl, zl, k3, if_neg Bool.false_ne_true, zl, t00, if_neg (by decide)]
      exact ⟨_, _, _, _, _, hc, hr, h.t 1, by simp [ANS, t00]⟩
  · have hc : f_X10_ahead q a b c u = some (.inl eIA, q, u) := by rw [f_X10_ahead_e, f2, z_bxl]
    have hr : f_X11_ahead a b c r = some (0, z_up r 0 0 1) := by rw [f_X11_ahead_e, zl, f3, if_neg Bool.false_ne_true, zl, t00, if_neg (by decide)]
    exact ⟨_, _, _, _, _, hc, hr, h.t 1, by simp [ANS, t00]⟩
/-! stops by draws on the spare wheel -/
theorem p_tryL {q : zq} {u0 r0 : zU} {T : zT} (hL : okL (q 0)) (hB : TB T) {N : Nat} (hN : N ≤ 60) : ∀ d k fuel (s : Int32) u r, k + d = N → d < fuel → SPx q T u0 r0 u r → ∃ y u' r', f_X10_tryStops_21 (zup q 1 (q 0)) fuel (nI N) (nI k) u = some ((), zup q 1 (q 0), u') ∧ f_X11_goes_5 fuel (nI N) (-1) s (nI k) r = some (y, r') ∧ SPx q T u0 r0 u' r' := by
  have e1 : zup q 1 (q 0) 1 = q 0 := zup_e
  have hAp := hL.ap (i := 1) (by decide)
  intro d
  induction d with
  | zero =>
    intro k fuel s u r hk hf sx
    obtain ⟨m, rfl⟩ : ∃ m, fuel = m + 1 := ⟨fuel - 1, by omega⟩
    obtain rfl : k = N := by omega
    rw [f_X10_tryStops_21_s, if_pos (nI_le (Nat.le_refl _) (by omega)), pr_goE m (by omega)]
    exact ⟨_, _, _, rfl, rfl, sx⟩
  | succ d ih =>
    intro k fuel s u r hk hf sx
    obtain ⟨m, rfl⟩ : ∃ m, fuel = m + 1 := ⟨fuel - 1, by omega⟩
    obtain ⟨s1, s2, s3⟩ := sx
    obtain ⟨u1, d1, S1, F1, -⟩ := s1.draw hAp
    obtain ⟨dd1, dd2⟩ := sDr_c s1.2.1
    have e7 : sD (r 1) 7 = r 1 7 := upd_ne (by decide)
    obtain ⟨u2, d2, S2, F2, -, -⟩ := S1.halt hAp hB (dr := rnd (r 1)) (e := sDr (r 1)) (by rw [e7]; exact dd1) (by omega) true
    obtain ⟨r1, g1, g2, g3⟩ := pr_goD s1.2.1 s1.2.2.2 hB m (N := N) (k := k) (by omega) (by omega) s
    obtain ⟨i1, i2, i3⟩ := rIt_I S1.2.1 T (sDr (r 1)) true
    rw [f_X10_tryStops_21_s, if_neg (nI_ge (by omega) (by omega)), e1, d1, z_let2s, d2, Option.bind_some, g1, nI_1]
    refine ih (k + 1) m _ u2 r1 (by omega) (by omega) ⟨by rw [g2]; exact S2, (s2.tr F1).tr F2, s3.go g3 (fun j hj => ?_)⟩
    rw [g2, i3 j (by omega)]
    exact upd_ne (by omega)
theorem zup_zup (q : zq) (i : Nat) (L L' : Nat → Nat) : zup (zup q i L) i L' = zup q i L' := by
  funext j
  unfold zup
  split <;> rfl
theorem p_try {q q1 : zq} {u0 r0 u r : zU} {T T' : zT} (h0 : RRb q u0 r0 T T') (hq : q1 = q ∨ q1 = zup q 1 (q 0)) (hF : Fr 17 (q 0) u0 u) (hC : CL u (q 0) T) (hS : SPr r0 r) (g : Int32) (h1 : r 1 = upd (r0 1) 12 g) {N : Nat} (hN : N ≤ 60) : ∃ y u' r', f_X10_tryStops q1 (nI N) g u = some ((), zup q 1 (q 0), u') ∧ f_X11_goes (nI N) (-1) r = some (y, r') ∧ SPx q T u0 r0 u' r' := by
  obtain ⟨⟨a1, a2, a3, a4⟩, a5, a6, a7, a8⟩ := h0.1
  have hd : ∀ j, j ≠ 12 → upd (r0 1) 12 g j = r0 1 j := fun j hj => upd_ne hj
  have eq0 : q1 0 = q 0 := by rcases hq with e | e <;> rw [e]; exact zup_o (by decide)
  have eqz : zup q1 1 (q 0) = zup q 1 (q 0) := by rcases hq with e | e <;> rw [e]; exact zup_zup q 1 _ _
  have hR : RW u 6 (r0 1) := a1.fr (fun x b1 b2 => by
    refine hF x (by omega) (fun e => ?_)
    have h6 := a7.ap (i := 0) (by decide) 7 (by decide) (by decide)
    rw [← e] at h6
    have w0 : wr 0 = 6 := rfl
    rw [w0] at h6
    omega)
  have hFw : Fw 17 u (z_up (f_X9_copy 17 (q1 1) 6 (q 0) u) 17 16 g) := fun x hx => by rw [z_up_ne (by omega)]; exact pc_cpo _ _ (by omega)
  have sx : SPx q T u0 r0 (z_up (f_X9_copy 17 (q1 1) 6 (q 0) u) 17 16 g) r := by
    refine ⟨⟨?_, ?_, hC.fw hFw (a7.ap (i := 1) (by decide)), ?_⟩, hF.tr hFw.f, hS⟩
    · rw [h1]; exact (pc_copy (q1 1) (q 0) (by omega) hR).u16 g
    · rw [h1]; exact (a2.ex (fun k hk => hd k (by omega))).1
    · rw [h1]; exact a4.ex (hd 1 (by decide)) (hd 2 (by decide)) (fun k b1 _ => hd k (by omega))
  obtain ⟨y, u', r', y1, y2, y3⟩ := p_tryL a7 a5 hN N 0 5000 0 _ r (by omega) (by omega) sx
  refine ⟨y, u', r', ?_, ?_, y3⟩
  · rw [f_X10_tryStops_e, zl, zl, zl, eq0, eqz]; exact y1
  · rw [f_X11_goes_e]; exact y2
theorem upd_same (v : Nat → Int32) (k : Nat) : upd v k (v k) = v := by
  funext j
  unfold upd
  split
  · subst_vars; rfl
  · rfl
theorem s_trial {q : zq} {u r : zU} (h : RR q u r) (a : Int32) (b : Bool) : ∃ o q' u' x r', f_X10_trial q a b u = some (o, q', u') ∧ f_X11_trial a b r = some (x, r') ∧ RR q' u' r' ∧ ANS [(eIA, 1)] o x (r' 0 0) := by
  rcases need_n (q := q) (u := u) a 0 60 r with ⟨l1, l2, k2, k3⟩ | ⟨k2, k3⟩
  · obtain ⟨T, T', hb⟩ := h.t 0
    obtain ⟨N, hN, rfl⟩ := nI_of (show ¬ a < 0 by lia)
    have hN1 : N ≤ 60 := (nI_leI (b := 60) hN (by decide)).mp l2
    obtain ⟨r1, g1, g2, g3⟩ := SPr.start (z_up r 0 0 0)
    obtain ⟨y, u', r', y1, y2, y3⟩ := p_try (q1 := q) hb (Or.inl rfl) Fr.rf hb.1.1.2.2.1 g2 (r 1 12) (by rw [g3]; exact (upd_same (r 1) 12).symm) hN1
    obtain ⟨r2, w1, w2, w3, -⟩ := SPx.fin hb y3
    have hc : f_X10_trial q (nI N) b u = some (.inr (if b = true then r' 1 10 else r' 1 6), zup q 1 (q 0), u') := by
      rw [f_X10_trial_e, k2, z_bxr, h.rw.s16, y1, z_b3s, y3.1.1.s9, y3.1.1.s11]
      split <;> rfl
    have hr : f_X11_trial (nI N) b r = some ((if b = true then r' 1 10 else r' 1 6), r2) := by
      rw [f_X11_trial_e, zl, k3, if_pos rfl, zl, t00, if_pos (by decide), g1, Option.bind_some, y2, z_b2s, w1]
      split
      · rw [zl, Option.bind_some]
      · rw [zl, Option.bind_some]
    exact ⟨_, _, _, _, _, hc, hr, ⟨T, T', w2⟩, ⟨w3, rfl⟩⟩
  · have hc : f_X10_trial q a b u = some (.inl eIA, q, u) := by rw [f_X10_trial_e, k2, z_bxl]
    have hr : f_X11_trial a b r = some (0, z_up r 0 0 1) := by rw [f_X11_trial_e, zl, k3, if_neg Bool.false_ne_true, zl, t00, if_neg (by decide)]
    exact ⟨_, _, _, _, _, hc, hr, h.t 1, by simp [ANS, t00]⟩
theorem mm0 {c : Int32} (h : sm c 9999) : z_min 9999 c = c ∧ z_max 0 c = c := by
  have := sm_9999.mp h
  unfold z_min z_max
  constructor
  · split <;> lia
  · split <;> lia
theorem mm1 {a c : Int32} (h : sm a 9999) (h2 : sm c 9999) : sm (z_min a c) 9999 ∧ sm (z_max a c) 9999 := by
  unfold z_min z_max
  constructor
  · split <;> assumption
  · split <;> assumption
theorem p_span {q : zq} {u0 r0 : zU} {T T' : zT} (h0 : RRb q u0 r0 T T') {N : Nat} (hN : N ≤ 60) (b : Bool) : ∀ d k fuel (lo hi fo : Int32) q1 u r, k + d = 7 → 1 ≤ k → d < fuel → (q1 = q ∨ q1 = zup q 1 (q 0)) → Fr 17 (q 0) u0 u → CL u (q 0) T → SPr r0 r → r 1 = r0 1 → ((k = 1 ∧ lo = 9999 ∧ hi = 0 ∧ fo = -1) ∨ (1 < k ∧ sm lo 9999 ∧ sm hi 9999 ∧ q1 = zup q 1 (q 0) ∧ fo = if b = true then hi else lo)) →
    ∃ y u' r', f_X10_span_17 fuel (nI N) b lo hi (nI k) q1 u = some (.inr y, zup q 1 (q 0), u') ∧ f_X11_span_37 fuel (nI N) b fo (nI k) r = some (y, r') ∧ RRb (zup q 1 (q 0)) u' r' T T' ∧ r' 0 0 = r0 0 0 := by
  intro d
  induction d with
  | zero =>
    intro k fuel lo hi fo q1 u r hk h1k hf hq hF hC hS hr1 hst
    obtain ⟨m, rfl⟩ : ∃ m, fuel = m + 1 := ⟨fuel - 1, by omega⟩
    obtain rfl : k = 7 := by omega
    rcases hst with ⟨q1', -⟩ | ⟨-, -, -, hq1, hfo⟩
    · omega
    obtain ⟨r2, w1, w2, w3, w4, w5⟩ := SPx.fin2 h0 hF hC hS
    have hRR : RRb (zup q 1 (q 0)) u r T T' := by
      obtain ⟨a2, a4, a5, a00, a03, a06, a08, a012, a3, a1⟩ := hS
      have hL := h0.1.2.2.2.1
      have hR : RW u 6 (r0 1) := h0.1.1.1.fr (fun x b1 b2 => by
        refine hF x (by omega) (fun e => ?_)
        have h6 := hL.ap (i := 0) (by decide) 7 (by decide) (by decide)
        rw [← e] at h6
        have w0 : wr 0 = 6 := rfl
        rw [w0] at h6
        omega)
      exact (h0.tmp (w := 17) (Or.inr rfl) hF hR hC hr1 a2 a4 a5 a03 a06 a08 a012).q1 (q 0)
    refine ⟨fo, u, r, ?_, ?_, hRR, hS.2.2.2.1⟩
    · rw [f_X10_span_17_s, if_pos (show (6 : Int32) < nI 7 by decide), hfo, hq1]
      split <;> rfl
    · rw [f_X11_span_37_s, if_pos (show (6 : Int32) < nI 7 by decide)]
  | succ d ih =>
    intro k fuel lo hi fo q1 u r hk h1k hf hq hF hC hS hr1 hst
    obtain ⟨m, rfl⟩ : ∃ m, fuel = m + 1 := ⟨fuel - 1, by omega⟩
    have hlt : ¬ (6 : Int32) < nI k := nI_nlt (a := 6) (by omega) (by decide)
    have hS2 : SPr r0 (z_up r 1 12 (nI k)) := by
      obtain ⟨a2, a4, a5, a00, a03, a06, a08, a012, a3, a1⟩ := hS
      exact ⟨a2, a4, a5, a00, a03, a06, a08, a012, a3, fun j hj => (upd_ne (by omega)).trans (a1 j hj)⟩
    obtain ⟨y, u', r', y1, y2, y3⟩ := p_try h0 hq hF hC hS2 (nI k) (by rw [← hr1]; rfl) hN
    have hc := y3.1.2.1.v6
    obtain ⟨r2, w1, w2, w3, w4, w5⟩ := SPx.fin h0 y3
    have hcl : f_X10_span_17 (m + 1) (nI N) b lo hi (nI k) q1 u = f_X10_span_17 m (nI N) b (z_min lo (r' 1 6)) (z_max hi (r' 1 6)) (nI (k + 1)) (zup q 1 (q 0)) u' := by
      rw [f_X10_span_17_s, if_neg hlt, y1, z_b3s, zl, zl, y3.1.1.s11, nI_1]
    have hrf : f_X11_span_37 (m + 1) (nI N) b fo (nI k) r = f_X11_span_37 m (nI N) b (if b = true then z_max hi (r' 1 6) else z_min lo (r' 1 6)) (nI (k + 1)) r2 := by
      rw [f_X11_span_37_s, if_neg hlt, zl, y2, z_b2s, zl, w1, Option.bind_some, nI_1]
      rcases hst with ⟨s1, s2, s3, s4⟩ | ⟨s1, s2, s3, s4, s5⟩
      · rw [if_pos s4, s2, s3, (mm0 hc).1, (mm0 hc).2]
        split <;> rfl
      · have hfo : fo ≠ -1 := by
          obtain ⟨a, ha, ea⟩ := s2
          obtain ⟨c, hc2, ec⟩ := s3
          rw [s5]
          split
          · rw [ec]; exact pu_m1 (by omega)
          · rw [ea]; exact pu_m1 (by omega)
        rw [if_neg hfo]
        cases b with
        | true =>
          rw [if_pos rfl, if_pos rfl, zl, f_X11_greater_e, z_max_eq, s5, if_pos rfl]
        | false =>
          rw [if_neg Bool.false_ne_true, if_neg Bool.false_ne_true, zl, f_X11_lesser_e, z_min_eq, s5, if_neg Bool.false_ne_true]
    rw [hcl, hrf]
    refine ih (k + 1) m _ _ _ _ u' r2 (by omega) (by omega) (by omega) (Or.inr rfl) y3.2.1 y3.1.2.2.1 w5 w4 (Or.inr ⟨by omega, ?_, ?_, rfl, rfl⟩)
    · rcases hst with ⟨s1, s2, s3, s4⟩ | ⟨s1, s2, s3, s4, s5⟩
      · rw [s2, (mm0 hc).1]; exact hc
      · exact (mm1 s2 hc).1
    · rcases hst with ⟨s1, s2, s3, s4⟩ | ⟨s1, s2, s3, s4, s5⟩
      · rw [s3, (mm0 hc).2]; exact hc
      · exact (mm1 s3 hc).2
theorem s_span {q : zq} {u r : zU} (h : RR q u r) (a : Int32) (b : Bool) : ∃ o q' u' x r', f_X10_span q a b u = some (o, q', u') ∧ f_X11_span a b r = some (x, r') ∧ RR q' u' r' ∧ ANS [(eIA, 1)] o x (r' 0 0) := by
  rcases need_n (q := q) (u := u) a 0 60 r with ⟨l1, l2, k2, k3⟩ | ⟨k2, k3⟩
  · obtain ⟨T, T', hb⟩ := h.t 0
    obtain ⟨N, hN, rfl⟩ := nI_of (show ¬ a < 0 by lia)
    have hN1 : N ≤ 60 := (nI_leI (b := 60) hN (by decide)).mp l2
    obtain ⟨r1, g1, g2, g3⟩ := SPr.start (z_up r 0 0 0)
    obtain ⟨y, u', r', y1, y2, y3, y4⟩ := p_span hb hN1 b 6 1 5000 9999 0 (-1) q u r1 rfl (by decide) (by decide) (Or.inl rfl) Fr.rf hb.1.1.2.2.1 g2 g3 (Or.inl ⟨rfl, rfl, rfl, rfl⟩)
    have hc : f_X10_span q (nI N) b u = some (.inr y, zup q 1 (q 0), u') := by rw [f_X10_span_e, k2, z_bxr]; exact y1
    have hr : f_X11_span (nI N) b r = some (y, r') := by rw [f_X11_span_e, zl, k3, if_pos rfl, zl, t00, if_pos (by decide), g1, Option.bind_some]; exact y2
    exact ⟨_, _, _, _, _, hc, hr, ⟨T, T', y3⟩, ⟨y4, rfl⟩⟩
  · have hc : f_X10_span q a b u = some (.inl eIA, q, u) := by rw [f_X10_span_e, k2, z_bxl]
    have hr : f_X11_span a b r = some (0, z_up r 0 0 1) := by rw [f_X11_span_e, zl, k3, if_neg Bool.false_ne_true, zl, t00, if_neg (by decide)]
    exact ⟨_, _, _, _, _, hc, hr, h.t 1, by simp [ANS, t00]⟩
