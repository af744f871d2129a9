/-! PURE, 24: what is ahead -/
def SPr (r0 r : zU) : Prop := r 2 = r0 2 ∧ r 4 = r0 4 ∧ r 5 = r0 5 ∧ r 0 0 = r0 0 0 ∧ r 0 3 = r0 0 3 ∧ r 0 6 = r0 0 6 ∧ r 0 8 = r0 0 8 ∧ r 0 12 = r0 0 12 ∧ (∀ j, j < 305 → r 3 j = r0 1 j) ∧ (∀ j, 305 ≤ j → r 1 j = r0 1 j)
theorem SPr.go {r0 r r' : zU} (h : SPr r0 r) (hF : RF r r') (h1 : ∀ j, 305 ≤ j → r' 1 j = r 1 j) : SPr r0 r' := by
  obtain ⟨a2, a4, a5, a00, a03, a06, a08, a012, a3, a1⟩ := h
  obtain ⟨f2, f3, f4, f5, f00, f03, f06, f08, f012⟩ := hF
  exact ⟨f2.trans a2, f4.trans a4, f5.trans a5, f00.trans a00, f03.trans a03, f06.trans a06, f08.trans a08, f012.trans a012, fun j hj => by rw [f3]; exact a3 j hj, fun j hj => (h1 j hj).trans (a1 j hj)⟩
theorem SPr.start (r : zU) : ∃ r1, f_X11_putsAside r = some r1 ∧ SPr r r1 ∧ r1 1 = r 1 :=
  ⟨_, pr_putsAside r, ⟨rfl, rfl, rfl, rfl, rfl, rfl, rfl, rfl, fun j hj => cpy_0 hj, fun j hj => rfl⟩, rfl⟩
theorem SPr.fin {r0 r : zU} (h : SPr r0 r) : ∃ r', f_X11_comesBack r = some r' ∧ SPr r0 r' ∧ r' 1 = r0 1 := by
  obtain ⟨a2, a4, a5, a00, a03, a06, a08, a012, a3, a1⟩ := h
  have e : cpy 305 0 (r 3) (r 1) = r0 1 := by
    funext j
    by_cases hj : j < 305
    · rw [cpy_0 hj]; exact a3 j hj
    · rw [cpy_out (by omega)]; exact a1 j (by omega)
  refine ⟨_, pr_comesBack r, ⟨a2, a4, a5, a00, a03, a06, a08, a012, a3, fun j hj => ?_⟩, ?_⟩
  · rw [zst_e, e]
  · rw [zst_e, e]
/-- the spare wheel at play: u0, r0 as they were -/
def SPx (q : zq) (T : zT) (u0 r0 u r : zU) : Prop := STP u 17 (q 0) T (r 1) ∧ Fr 17 (q 0) u0 u ∧ SPr r0 r
theorem SPx.start {q : zq} {u r : zU} {T T' : zT} (h : RRb q u r T T') (L : Nat → Nat) : ∃ r1, f_X11_putsAside r = some r1 ∧ r1 1 = r 1 ∧ SPx q T u r (f_X9_copy 17 L 6 (q 0) u) r1 := by
  obtain ⟨⟨a1, a2, a3, a4⟩, a5, a6, a7, a8⟩ := h.1
  obtain ⟨r1, e1, s1, k1⟩ := SPr.start r
  have hF : Fw 17 u (f_X9_copy 17 L 6 (q 0) u) := fun r hr => pc_cpo _ _ (by omega)
  refine ⟨r1, e1, k1, ⟨?_, by rw [k1]; exact a2, a3.fw hF (a7.ap (i := 1) (by decide)), by rw [k1]; exact a4⟩, hF.f, s1⟩
  rw [k1]; exact pc_copy L (q 0) (by omega) a1
theorem RRb.q1 {q : zq} {u r : zU} {T T' : zT} (h : RRb q u r T T') (L : Nat → Nat) : RRb (zup q 1 L) u r T T' := by
  obtain ⟨a, b, c, d, e, ⟨x1, x2, x3, x4, x5, x6, x7, x8⟩, g⟩ := h
  have e0 : zup q 1 L 0 = q 0 := zup_o (by decide)
  have e14 : zup q 1 L 14 = q 14 := zup_o (by decide)
  refine ⟨by rw [e0]; exact a, b, c, d, e, ⟨x1, x2, x3, x4, x5, x6, x7, fun b hb => ?_⟩, ?_⟩
  · rw [zup_o (by omega), e0]; exact x8 b hb
  · unfold PIc; rw [e0, e14]; exact g
theorem SPx.fin2 {q : zq} {u r u1 r1 : zU} {T T' : zT} (h : RRb q u r T T') (s2 : Fr 17 (q 0) u u1) (hC : CL u1 (q 0) T) (s3 : SPr r r1) : ∃ r', f_X11_comesBack r1 = some r' ∧ RRb (zup q 1 (q 0)) u1 r' T T' ∧ r' 0 0 = r 0 0 ∧ r' 1 = r 1 ∧ SPr r r' := by
  obtain ⟨r', e1, t1, k1⟩ := s3.fin
  have hL := h.1.2.2.2.1
  have hX := s2.x (Or.inr rfl) hL
  obtain ⟨a2, a4, a5, a00, a03, a06, a08, a012, a3, a1⟩ := id t1
  have hR : RW u1 6 (r 1) := h.1.1.1.fr (fun x h1 h2 => by
    refine s2 x (by omega) (fun e => ?_)
    have h6 := hL.ap (i := 0) (by decide) 7 (by decide) (by decide)
    rw [← e] at h6
    have w0 : wr 0 = 6 := rfl
    rw [w0] at h6
    omega)
  exact ⟨r', e1, (h.tmp (w := 17) (Or.inr rfl) s2 hR hC k1 a2 a4 a5 a03 a06 a08 a012).q1 (q 0), a00, k1, t1⟩
theorem SPx.fin {q : zq} {u r u1 r1 : zU} {T T' : zT} (h : RRb q u r T T') (s : SPx q T u r u1 r1) : ∃ r', f_X11_comesBack r1 = some r' ∧ RRb (zup q 1 (q 0)) u1 r' T T' ∧ r' 0 0 = r 0 0 ∧ r' 1 = r 1 ∧ SPr r r' := SPx.fin2 h s.2.1 s.1.2.2.1 s.2.2
/-- a stop by a told draw, on both sides -/
theorem SPx.told {q : zq} {u0 r0 u r : zU} {T : zT} (s : SPx q T u0 r0 u r) (hL : okL (q 0)) (hB : TB T) {e : Nat} (he8 : e < 8) (he : z_rem (nI e) (r 1 7) = nI e) : ∃ u', f_X9_halt 17 (q 0) (nI e) false u = some u' ∧ ∀ (n : Nat) {N k : Nat} (_ : k < N) (_ : N ≤ 100) (x3 : Int32), ∃ y r', f_X11_goes_5 (n + 1) (nI N) (nI e) x3 (nI k) r = f_X11_goes_5 n (nI N) (nI e) y (nI (k + 1)) r' ∧ SPx q T u0 r0 u' r' ∧ z_rem (nI e) (r' 1 7) = nI e := by
  obtain ⟨s1, s2, s3⟩ := s
  obtain ⟨u', e1, t1, t2, -, -⟩ := s1.halt (hL.ap (i := 1) (by decide)) hB he (by omega) false
  obtain ⟨i1, i2, i3⟩ := rIt_I s1.2.1 T e false
  refine ⟨u', e1, fun n N k hk hN x3 => ?_⟩
  obtain ⟨r', g1, g2, g3⟩ := pr_goT s1.2.1 s1.2.2.2 hB he8 n hk hN x3
  exact ⟨_, r', g1, ⟨by rw [g2]; exact t1, s2.tr t2, s3.go g3 (fun j hj => by rw [g2]; exact i3 j (by omega))⟩, by rw [g2, i3 7 (by omega)]; exact he⟩
theorem SPx.told1 {q : zq} {u0 r0 u r : zU} {T : zT} (s : SPx q T u0 r0 u r) (hL : okL (q 0)) (hB : TB T) {e : Nat} (he8 : e < 8) (he : z_rem (nI e) (r 1 7) = nI e) : ∃ u' y r', f_X9_halt 17 (q 0) (nI e) false u = some u' ∧ f_X11_goes 1 (nI e) r = some (y, r') ∧ SPx q T u0 r0 u' r' ∧ z_rem (nI e) (r' 1 7) = nI e := by
  obtain ⟨u', e1, hh⟩ := s.told hL hB he8 he
  obtain ⟨y, r', g1, g2, g3⟩ := hh 4999 (N := 1) (k := 0) (by decide) (by decide) 0
  refine ⟨u', y, r', e1, ?_, g2, g3⟩
  rw [f_X11_goes_e]
  exact g1.trans (pr_goE 4998 (N := 1) (by decide) (nI e) y)
/-- a draw that can be told -/
theorem need_d {q : zq} {u r : zU} (hR : RW u 6 (r 1)) (hV : IV (r 1)) (a : Int32) (w : zU) (hw : w 1 = r 1) : (∃ e, e < 8 ∧ a = nI e ∧ z_rem (nI e) (r 1 7) = nI e ∧ f_X10_needDraw q a u = some (.inr (), q, u) ∧ f_X11_isDraw a w = true) ∨ (f_X10_needDraw q a u = some (.inl eIA, q, u) ∧ f_X11_isDraw a w = false) := by
  obtain ⟨rc, r1, r2, r3⟩ := hV.v7
  have e1 : r 1 7 - 1 = nI (rc - 1) := by rw [r3, show rc = (rc - 1) + 1 by omega, nI_pred]; congr 1
  rw [f_X10_needDraw_e, f_X11_isDraw_e, zl, hw, hR.s12, e1]
  rcases need_n (q := q) (u := u) a 0 (nI (rc - 1)) w with ⟨l1, l2, f2, f3⟩ | ⟨f2, f3⟩
  · left
    obtain ⟨e, he, rfl⟩ := nI_of (show ¬ a < 0 by lia)
    have := (nI_leI he (by omega)).mp l2
    refine ⟨e, by omega, rfl, ?_, by rw [f2, z_bxr], f3⟩
    rw [r3]
    refine (pk_rem (by omega) (by omega) (by omega)).trans ?_
    rw [Nat.mod_eq_of_lt (by omega)]
  · right
    exact ⟨by rw [f2, z_bxl], f3⟩
theorem p_boards {q : zq} {u0 r0 : zU} {T T' : zT} (h0 : RRb q u0 r0 T T') {x e : Nat} (hx : x < 8) (he8 : e < 8) : ∀ d n fuel u r, n + d = 101 → d + 2 < fuel → SPx q T u0 r0 u r → z_rem (nI e) (r 1 7) = nI e → ∃ y u' r', f_X10_boards_23 (zup q 1 (q 0)) fuel (nI x) (nI e) (nI n) u = some (.inr y, zup q 1 (q 0), u') ∧ f_X11_firstBy_10 fuel (nI x) (nI e) false (-1) (nI n) r = some (y, r') ∧ RRb (zup q 1 (q 0)) u' r' T T' ∧ r' 0 0 = r0 0 0 := by
  have hL := h0.1.2.2.2.1
  have hB := h0.1.2.1
  have e1 : zup q 1 (q 0) 1 = q 0 := zup_e
  intro d
  induction d with
  | zero =>
    intro n fuel u r hn hf s he
    obtain ⟨m, rfl⟩ : ∃ m, fuel = m + 1 := ⟨fuel - 1, by omega⟩
    obtain rfl : n = 101 := by omega
    obtain ⟨r', g1, g2, g3, -⟩ := SPx.fin h0 s
    rw [f_X10_boards_23_s, f_X11_firstBy_10_s, if_pos (show (100 : Int32) < nI 101 by decide), if_pos (show (100 : Int32) < nI 101 by decide), g1, Option.bind_some]
    exact ⟨_, _, _, rfl, rfl, g2, g3⟩
  | succ d ih =>
    intro n fuel u r hn hf s he
    obtain ⟨m, rfl⟩ : ∃ m, fuel = m + 1 := ⟨fuel - 1, by omega⟩
    have hlt : ¬ (100 : Int32) < nI n := nI_nlt (a := 100) (by omega) (by decide)
    obtain ⟨u', y, r', t1, t2, t3, t4⟩ := s.told1 hL hB he8 he
    rw [f_X10_boards_23_s, f_X11_firstBy_10_s, if_neg hlt, if_neg hlt, if_pos rfl, if_neg Bool.false_ne_true, if_pos (pu_in hx (by decide)), zl, nI_clamp (by omega), show u 18 x = r 1 (25 + 4 * x) from s.1.1.pl hx, pr_waits hx, Option.bind_some, e1]
    by_cases hw : r 1 (25 + 4 * x) = -1
    · rw [if_pos hw, decide_eq_true hw, if_pos rfl, t1, Option.bind_some, t2, z_b2s, nI_1]
      exact ih (n + 1) m u' r' (by omega) (by omega) t3 t4
    · rw [if_neg hw, decide_eq_false hw, if_neg Bool.false_ne_true, t2, z_b2s]
      obtain ⟨m', rfl⟩ : ∃ m', m = m' + 1 := ⟨m - 1, by omega⟩
      obtain ⟨r2, g1, g2, g3, -⟩ := SPx.fin2 h0 s.2.1 s.1.2.2.1 t3.2.2
      refine ⟨nI n, u, r2, rfl, ?_, g2, g3⟩
      rw [f_X11_firstBy_10_s, g1, Option.bind_some, if_neg (show ¬ nI n = -1 from pu_m1 (by omega))]
      split <;> rfl
theorem p_ruled {q : zq} {u0 r0 : zU} {T T' : zT} (h0 : RRb q u0 r0 T T') {x e : Nat} (he8 : e < 8) : ∀ d n fuel u r, n + d = 101 → d + 2 < fuel → SPx q T u0 r0 u r → z_rem (nI e) (r 1 7) = nI e → ∃ y u' r', f_X10_ruled_23 (zup q 1 (q 0)) fuel (nI x) (nI e) (nI n) u = some (.inr y, zup q 1 (q 0), u') ∧ f_X11_firstBy_10 fuel (nI x) (nI e) true (-1) (nI n) r = some (y, r') ∧ RRb (zup q 1 (q 0)) u' r' T T' ∧ r' 0 0 = r0 0 0 := by
  have hL := h0.1.2.2.2.1
  have hB := h0.1.2.1
  have e1 : zup q 1 (q 0) 1 = q 0 := zup_e
  intro d
  induction d with
  | zero =>
    intro n fuel u r hn hf s he
    obtain ⟨m, rfl⟩ : ∃ m, fuel = m + 1 := ⟨fuel - 1, by omega⟩
    obtain rfl : n = 101 := by omega
    obtain ⟨r', g1, g2, g3, -⟩ := SPx.fin h0 s
    rw [f_X10_ruled_23_s, f_X11_firstBy_10_s, if_pos (show (100 : Int32) < nI 101 by decide), if_pos (show (100 : Int32) < nI 101 by decide), g1, Option.bind_some]
    exact ⟨_, _, _, rfl, rfl, g2, g3⟩
  | succ d ih =>
    intro n fuel u r hn hf s he
    obtain ⟨m, rfl⟩ : ∃ m, fuel = m + 1 := ⟨fuel - 1, by omega⟩
    have hlt : ¬ (100 : Int32) < nI n := nI_nlt (a := 100) (by omega) (by decide)
    obtain ⟨u', y, r', t1, t2, t3, t4⟩ := s.told1 hL hB he8 he
    rw [f_X10_ruled_23_s, f_X11_firstBy_10_s, if_neg hlt, if_neg hlt, if_pos rfl, if_pos rfl, s.1.1.s14, e1, pc_firstIn s.1.1 s.1.2.1, Option.bind_some, pr_governor s.1.2.1, Option.bind_some]
    by_cases hw : sFirst (r 1) (r 1 4) = nI x
    · rw [if_pos hw, if_pos hw, t2, z_b2s]
      obtain ⟨m', rfl⟩ : ∃ m', m = m' + 1 := ⟨m - 1, by omega⟩
      obtain ⟨r2, g1, g2, g3, -⟩ := SPx.fin2 h0 s.2.1 s.1.2.2.1 t3.2.2
      refine ⟨nI n, u, r2, rfl, ?_, g2, g3⟩
      rw [f_X11_firstBy_10_s, g1, Option.bind_some, if_neg (show ¬ nI n = -1 from pu_m1 (by omega))]
      split <;> rfl
    · rw [if_neg hw, if_neg hw, t1, Option.bind_some, t2, z_b2s, nI_1]
      exact ih (n + 1) m u' r' (by omega) (by omega) t3 t4
theorem s_boards {q : zq} {u r : zU} (h : RR q u r) (a b : Int32) : ∃ o q' u' x r', f_X10_boards q a b u = some (o, q', u') ∧ f_X11_boards a b r = some (x, r') ∧ RR q' u' r' ∧ ANS [(eIO, 1), (eIA, 2)] o x (r' 0 0) := by
  have hV := h.iv
  have h8 := hV.n8
  rcases need_r (q := q) h.rw hV a r rfl with ⟨x, hx, e1, e2, e3⟩ | ⟨e2, e3⟩
  · rcases need_d (q := q) h.rw hV b r rfl with ⟨e, he8, f0, f1, f2, f3⟩ | ⟨f2, f3⟩
    · obtain ⟨T, T', hb⟩ := h.t 0
      obtain ⟨r1, g1, g2, g3⟩ := SPx.start hb (q 1)
      obtain ⟨y, u', r', y1, y2, y3, y4⟩ := p_boards hb (x := x) (e := e) (by omega) he8 101 0 5000 _ r1 rfl (by decide) g3 (by rw [g2]; exact f1)
      have hc : f_X10_boards q a b u = some (.inr y, zup q 1 (q 0), u') := by
        rw [f_X10_boards_e, e2, z_bxr, f2, z_bxr, zl, zl, e1, f0]; exact y1
      have hr : f_X11_boards a b r = some (y, r') := by
        have y2' : f_X11_firstBy (nI x) (nI e) false (z_up r 0 0 0) = some (y, r') := by rw [f_X11_firstBy_e, g1, Option.bind_some]; exact y2
        rw [f_X11_boards_e, zl, e3, if_pos rfl, zl, f3, if_pos rfl, zl, t00, if_pos (by decide), e1, f0, y2', z_b2s]
      exact ⟨_, _, _, _, _, hc, hr, ⟨T, T', y3⟩, ⟨y4, rfl⟩⟩
    · have hc : f_X10_boards q a b u = some (.inl eIA, q, u) := by rw [f_X10_boards_e, e2, z_bxr, f2, z_bxl]
      have hr : f_X11_boards a b r = some (0, z_up r 0 0 2) := by rw [f_X11_boards_e, zl, e3, if_pos rfl, zl, f3, if_neg Bool.false_ne_true, zl, t00, if_neg (by decide)]
      exact ⟨_, _, _, _, _, hc, hr, h.t 2, by simp [ANS, t00]⟩
  · have hc : f_X10_boards q a b u = some (.inl eIO, q, u) := by rw [f_X10_boards_e, e2, z_bxl]
    have hr : f_X11_boards a b r = some (0, z_up r 0 0 1) := by rw [f_X11_boards_e, zl, e3, if_neg Bool.false_ne_true, zl, t00, if_neg (by decide)]
    exact ⟨_, _, _, _, _, hc, hr, h.t 1, by simp [ANS, t00]⟩
theorem s_ruled {q : zq} {u r : zU} (h : RR q u r) (a b : Int32) : ∃ o q' u' x r', f_X10_ruled q a b u = some (o, q', u') ∧ f_X11_ruled a b r = some (x, r') ∧ RR q' u' r' ∧ ANS [(eIO, 1), (eIA, 2)] o x (r' 0 0) := by
  have hV := h.iv
  have h8 := hV.n8
  rcases need_r (q := q) h.rw hV a r rfl with ⟨x, hx, e1, e2, e3⟩ | ⟨e2, e3⟩
  · rcases need_d (q := q) h.rw hV b r rfl with ⟨e, he8, f0, f1, f2, f3⟩ | ⟨f2, f3⟩
    · obtain ⟨T, T', hb⟩ := h.t 0
      obtain ⟨r1, g1, g2, g3⟩ := SPx.start hb (q 1)
      obtain ⟨y, u', r', y1, y2, y3, y4⟩ := p_ruled hb (x := x) (e := e) he8 101 0 5000 _ r1 rfl (by decide) g3 (by rw [g2]; exact f1)
      have hc : f_X10_ruled q a b u = some (.inr y, zup q 1 (q 0), u') := by
        rw [f_X10_ruled_e, e2, z_bxr, f2, z_bxr, zl, zl, e1, f0]; exact y1
      have hr : f_X11_ruled a b r = some (y, r') := by
        have y2' : f_X11_firstBy (nI x) (nI e) true (z_up r 0 0 0) = some (y, r') := by rw [f_X11_firstBy_e, g1, Option.bind_some]; exact y2
        rw [f_X11_ruled_e, zl, e3, if_pos rfl, zl, f3, if_pos rfl, zl, t00, if_pos (by decide), e1, f0, y2', z_b2s]
      exact ⟨_, _, _, _, _, hc, hr, ⟨T, T', y3⟩, ⟨y4, rfl⟩⟩
    · have hc : f_X10_ruled q a b u = some (.inl eIA, q, u) := by rw [f_X10_ruled_e, e2, z_bxr, f2, z_bxl]
      have hr : f_X11_ruled a b r = some (0, z_up r 0 0 2) := by rw [f_X11_ruled_e, zl, e3, if_pos rfl, zl, f3, if_neg Bool.false_ne_true, zl, t00, if_neg (by decide)]
      exact ⟨_, _, _, _, _, hc, hr, h.t 2, by simp [ANS, t00]⟩
  · have hc : f_X10_ruled q a b u = some (.inl eIO, q, u) := by rw [f_X10_ruled_e, e2, z_bxl]
    have hr : f_X11_ruled a b r = some (0, z_up r 0 0 1) := by rw [f_X11_ruled_e, zl, e3, if_neg Bool.false_ne_true, zl, t00, if_neg (by decide)]
    exact ⟨_, _, _, _, _, hc, hr, h.t 1, by simp [ANS, t00]⟩
/-! many stops by a told draw -/
theorem p_goA {q : zq} {u0 r0 : zU} {T : zT} (hL : okL (q 0)) (hB : TB T) {e N : Nat} (he8 : e < 8) (hN : N ≤ 100) : ∀ d k fuel (s : Int32) u r, k + d = N → d < fuel → SPx q T u0 r0 u r → z_rem (nI e) (r 1 7) = nI e → ∃ y u' r', f_X10_goAhead_13 (zup q 1 (q 0)) fuel (nI e) (nI N) (nI k) u = some ((), zup q 1 (q 0), u') ∧ f_X11_goes_5 fuel (nI N) (nI e) s (nI k) r = some (y, r') ∧ SPx q T u0 r0 u' r' := by
  have e1 : zup q 1 (q 0) 1 = q 0 := zup_e
  intro d
  induction d with
  | zero =>
    intro k fuel s u r hk hf sx he
    obtain ⟨m, rfl⟩ : ∃ m, fuel = m + 1 := ⟨fuel - 1, by omega⟩
    obtain rfl : k = N := by omega
    rw [f_X10_goAhead_13_s, if_pos (nI_le (Nat.le_refl _) (by omega)), pr_goE m hN]
    exact ⟨_, _, _, rfl, rfl, sx⟩
  | succ d ih =>
    intro k fuel s u r hk hf sx he
    obtain ⟨m, rfl⟩ : ∃ m, fuel = m + 1 := ⟨fuel - 1, by omega⟩
    obtain ⟨u', t1, hh⟩ := sx.told hL hB he8 he
    obtain ⟨y, r', g1, g2, g3⟩ := hh m (N := N) (k := k) (by omega) hN s
    rw [f_X10_goAhead_13_s, if_neg (nI_ge (by omega) (by omega)), e1, t1, Option.bind_some, g1, nI_1]
    exact ih (k + 1) m y u' r' (by omega) (by omega) g2 g3
theorem p_goAhead {q : zq} {u r : zU} {T T' : zT} (h : RRb q u r T T') {e N : Nat} (he8 : e < 8) (hN : N ≤ 100) (he : z_rem (nI e) (r 1 7) = nI e) : ∃ r1 y u' r', f_X11_putsAside r = some r1 ∧ f_X10_goAhead q (nI e) (nI N) u = some ((), zup q 1 (q 0), u') ∧ f_X11_goes (nI N) (nI e) r1 = some (y, r') ∧ SPx q T u r u' r' := by
  obtain ⟨r1, g1, g2, g3⟩ := SPx.start h (q 1)
  obtain ⟨y, u', r', y1, y2, y3⟩ := p_goA h.1.2.2.2.1 h.1.2.1 he8 hN N 0 5000 0 _ r1 (by omega) (by omega) g3 (by rw [g2]; exact he)
  refine ⟨r1, y, u', r', g1, ?_, ?_, y3⟩
  · rw [f_X10_goAhead_e, zl, zl]; exact y1
  · rw [f_X11_goes_e]; exact y2
theorem s_ruin {q : zq} {u r : zU} (h : RR q u r) (a b : Int32) : ∃ o q' u' x r', f_X10_ruin q a b u = some (o, q', u') ∧ f_X11_ruin a b r = some (x, r') ∧ RR q' u' r' ∧ ANS [(eIA, 1)] o x (r' 0 0) := by
  have hV := h.iv
  rcases need_d (q := q) h.rw hV a r rfl with ⟨e, he8, f0, f1, f2, f3⟩ | ⟨f2, f3⟩
  · rcases need_n (q := q) (u := u) b 0 100 r with ⟨l1, l2, k2, k3⟩ | ⟨k2, k3⟩
    · obtain ⟨T, T', hb⟩ := h.t 0
      obtain ⟨N, hN, rfl⟩ := nI_of (show ¬ b < 0 by lia)
      have hN1 : N ≤ 100 := (nI_leI (b := 100) hN (by decide)).mp l2
      obtain ⟨r1, y, u', r', g1, g2, g3, g4⟩ := p_goAhead hb he8 hN1 f1
      have hV4 := g4.1.2.1
      have h8 := hV4.n8
      obtain ⟨r2, w1, w2, w3, -⟩ := SPx.fin hb g4
      have hc1 : f_X10_ruin_23 (zup q 1 (q 0)) 5000 0 0 u' = some (.inr (nI (bset (fun k => decide (r' 1 (27 + 4 * k) = 0)) (rN (r' 1)))), zup q 1 (q 0), u') := by
        refine pu_bset (fun n s x => f_X10_ruin_23 (zup q 1 (q 0)) n s x u') (rN (r' 1)) _ (fun s => some (.inr s, zup q 1 (q 0), u')) h8 (fun n k s hk => ?_) (fun n s => ?_) 5000 (by omega)
        · show f_X10_ruin_23 (zup q 1 (q 0)) (n + 1) s (nI k) u' = _
          rw [f_X10_ruin_23_s, g4.1.1.s8, hV4.n, if_neg (nI_ge hk (by omega)), if_pos (pu_in (show k < 8 by omega) (by decide)), zl, nI_clamp (by omega), show u' 20 k = r' 1 (27 + 4 * k) from g4.1.1.pu (by omega), nI_1]
          by_cases hz : r' 1 (27 + 4 * k) = 0
          · rw [if_pos hz, zl, if_pos (decide_eq_true hz)]
          · rw [if_neg hz, if_neg (by rw [decide_eq_false hz]; decide)]
        · show f_X10_ruin_23 (zup q 1 (q 0)) (n + 1) s (nI (rN (r' 1))) u' = _
          rw [f_X10_ruin_23_s, g4.1.1.s8, hV4.n, if_pos (nI_le (Nat.le_refl _) (by omega))]
      have hr1 : f_X11_ruin_53 5000 0 0 r' = some (nI (bset (fun k => decide (r' 1 (27 + 4 * k) = 0)) (rN (r' 1))), r2) := by
        refine pu_bset (fun n s x => f_X11_ruin_53 n s x r') (rN (r' 1)) _ (fun s => some (s, r2)) h8 (fun n k s hk => ?_) (fun n s => ?_) 5000 (by omega)
        · show f_X11_ruin_53 (n + 1) s (nI k) r' = _
          rw [f_X11_ruin_53_s, hV4.n, if_neg (nI_ge hk (by omega)), pr_of2 (by omega), Option.bind_some, nI_1]
          by_cases hz : r' 1 (27 + 4 * k) = 0
          · rw [if_pos hz, zl, if_pos (decide_eq_true hz)]
          · rw [if_neg hz, zl, Int32.or_zero, if_neg (by rw [decide_eq_false hz]; decide)]
        · show f_X11_ruin_53 (n + 1) s (nI (rN (r' 1))) r' = _
          rw [f_X11_ruin_53_s, hV4.n, if_pos (nI_le (Nat.le_refl _) (by omega)), w1, Option.bind_some]
      have hc : f_X10_ruin q a (nI N) u = some (.inr (nI (bset (fun k => decide (r' 1 (27 + 4 * k) = 0)) (rN (r' 1)))), zup q 1 (q 0), u') := by
        rw [f_X10_ruin_e, f2, z_bxr, k2, z_bxr, f0, g2, z_b3s]; exact hc1
      have hr : f_X11_ruin a (nI N) r = some (nI (bset (fun k => decide (r' 1 (27 + 4 * k) = 0)) (rN (r' 1))), r2) := by
        rw [f_X11_ruin_e, zl, f3, if_pos rfl, zl, k3, if_pos rfl, zl, t00, if_pos (by decide), g1, Option.bind_some, f0, g3, z_b2s]; exact hr1
      exact ⟨_, _, _, _, _, hc, hr, ⟨T, T', w2⟩, ⟨w3, rfl⟩⟩
    · have hc : f_X10_ruin q a b u = some (.inl eIA, q, u) := by rw [f_X10_ruin_e, f2, z_bxr, k2, z_bxl]
      have hr : f_X11_ruin a b r = some (0, z_up r 0 0 1) := by rw [f_X11_ruin_e, zl, f3, if_pos rfl, zl, k3, if_neg Bool.false_ne_true, zl, t00, if_neg (by decide)]
      exact ⟨_, _, _, _, _, hc, hr, h.t 1, by simp [ANS, t00]⟩
  · have hc : f_X10_ruin q a b u = some (.inl eIA, q, u) := by rw [f_X10_ruin_e, f2, z_bxl]
    have hr : f_X11_ruin a b r = some (0, z_up r 0 0 1) := by rw [f_X11_ruin_e, zl, f3, if_neg Bool.false_ne_true, zl, t00, if_neg (by decide)]
    exact ⟨_, _, _, _, _, hc, hr, h.t 1, by simp [ANS, t00]⟩
