/-! PURE, 21: acts -/
theorem z_b3s {α β : Type} (a : α) (q : zq) (u : zU) (f : α → zq → zU → Option β) : z_b3 (some (a, q, u)) f = f a q u := Eq.trans rfl rfl
theorem RR.w1 {q : zq} {u u' r : zU} {v' : Nat → Int32} (h : RR q u r) (hF : Fw 6 u u') (hR : RW u' 6 v') (hV : IV v') (hP : CAP v') (he : ∀ j, j < 3 ∨ j = 11 ∨ 65 ≤ j → v' j = r 1 j) : RR q u' (zst r 1 v') := by
  obtain ⟨T, T', hb⟩ := h
  exact ⟨T, T', hb.wh (r' := zst r 1 v') hF.f hR hV (hb.1.1.2.2.1.fw hF (hb.1.2.2.2.1.ap (i := 0) (by decide))) hP he rfl rfl rfl rfl rfl rfl rfl⟩
theorem if00 {α : Type} (a b : α) (r : zU) (h : r 0 0 = 0) : (if (r 0 0) ≤ 0 then a else b) = a := if_pos (by rw [h]; decide)
abbrev eIO : String := "java/lang/IndexOutOfBoundsException"
abbrev eIA : String := "java/lang/IllegalArgumentException"
abbrev eIS : String := "java/lang/IllegalStateException"
abbrev eNS : String := "java/util/NoSuchElementException"
theorem s_off {q : zq} {u r : zU} (h : RR q u r) (a : Int32) : ∃ o q' u' x r', f_X10_off q a u = some (o, q', u') ∧ f_X11_off a r = some (x, r') ∧ RR q' u' r' ∧ ANS [(eIO, 1), (eIS, 2)] o x (r' 0 0) := by
  have hV := h.iv
  have h8 := hV.n8
  rcases need_r (q := q) h.rw hV a r rfl with ⟨x, hx, e1, e2, e3⟩ | ⟨e2, e3⟩
  · have hx8 : x < 8 := by omega
    by_cases hw : r 1 (25 + 4 * x) = -1
    · have hc : f_X10_off q a u = some (.inl eIS, q, u) := by
        rw [f_X10_off_e, e2, z_bxr, e1, if_pos (pu_in hx8 (by decide)), zl, nI_clamp (by omega), h.rw.a7 hx8, if_pos hw]
      have hr : f_X11_off a r = some (0, z_up r 0 0 2) := by
        rw [f_X11_off_e, zl, e3, if_pos rfl, e1, pr_waits hx8, decide_eq_true hw, Option.bind_some, if_pos rfl, zl, t00, if_neg (by decide)]
      exact ⟨_, _, _, _, _, hc, hr, h.t 2, by simp [ANS, t00]⟩
    · obtain ⟨q1, u1, r1, c1, c2, c3, c4, c5, c6⟩ := s_rem (h.t 0)
      have hV1 := c3.iv
      have ex : r1 1 = r 1 := c5
      obtain ⟨u2, g1, g2, g3, -⟩ := pc_getOff c3.rw hV1 (q1 0) (x := x) (by rw [ex]; exact hx) (by rw [ex]; exact hw)
      have q1' := hV1.q (x := x) (by rw [ex]; exact hx) (by rw [ex]; exact hw)
      have hc : f_X10_off q a u = some (.inr (sQ (r1 1) x 10), q1, u2) := by
        have c1' : f_X10_rememberAct q u = some ((), q1, u1) := c1
        rw [f_X10_off_e, e2, z_bxr, e1, if_pos (pu_in hx8 (by decide)), zl, nI_clamp (by omega), h.rw.a7 hx8, if_neg hw, c1', z_b3s, g1, Option.bind_some, g2.s9]
      have hr : f_X11_off a r = some (sQ (r1 1) x 10, zst r1 1 (sQ (r1 1) x)) := by
        rw [f_X11_off_e, zl, e3, if_pos rfl, e1, pr_waits hx8, decide_eq_false hw, Option.bind_some, if_neg Bool.false_ne_true, zl, t00, if_pos (by decide), c2, Option.bind_some, pr_queues hV1 (by rw [ex]; exact hx) (by rw [ex]; exact hw), Option.bind_some, zst_e]
      have hw8 := hV1.room (x := x) (by rw [ex]; exact hx) (by rw [ex]; exact hw)
      have := hV1.n8
      refine ⟨_, _, _, _, _, hc, hr, c3.w1 g3 g2 q1'.1 (c3.cap.q hV1 (by rw [ex]; exact hx) (by rw [ex]; exact hw)) (fun j hj => sQ_o (by omega) (by omega) (by omega)), ⟨c6, rfl⟩⟩
  · have hc : f_X10_off q a u = some (.inl eIO, q, u) := by rw [f_X10_off_e, e2, z_bxl]
    have hr : f_X11_off a r = some (0, z_up r 0 0 1) := by rw [f_X11_off_e, zl, e3, if_neg Bool.false_ne_true, zl, t00, if_neg (by decide)]
    exact ⟨_, _, _, _, _, hc, hr, h.t 1, by simp [ANS, t00]⟩
theorem s_board {q : zq} {u r : zU} (h : RR q u r) (a b : Int32) : ∃ o q' u' x r', f_X10_board q a b u = some (o, q', u') ∧ f_X11_board a b r = some (x, r') ∧ RR q' u' r' ∧ ANS [(eIO, 1), (eIS, 2)] o x (r' 0 0) := by
  have hV := h.iv
  have h8 := hV.n8
  rcases need_r (q := q) h.rw hV a r rfl with ⟨x, hx, e1, e2, e3⟩ | ⟨e2, e3⟩
  · have hx8 : x < 8 := by omega
    rcases need_c (q := q) (u := u) b r with ⟨c, hc8, f1, f2, f3⟩ | ⟨f2, f3⟩
    · by_cases hw : r 1 (25 + 4 * x) = -1
      · by_cases ho : sOpen (r 1) c = true
        · obtain ⟨q1, u1, r1, c1, c2, c3, c4, c5, c6⟩ := s_rem (h.t 0)
          have hV1 := c3.iv
          have ex : r1 1 = r 1 := c5
          obtain ⟨k, hk⟩ := hV.at hx hw
          have hk1 : atR (r1 1) x k := by rw [ex]; exact hk
          have hx1 : x < rN (r1 1) := by rw [ex]; exact hx
          obtain ⟨u2, g1, g2, g3, -⟩ := pc_getIn c3.rw hV1 (q1 0) hx1 hk1 (nI c)
          obtain ⟨i1, i2, i3⟩ := hV1.g hx1 hk1 hc8
          have ho1 : bcnt (Pin (r1 1) (nI c)) (rN (r1 1)) < 2 := by
            rw [ex]; unfold sOpen at ho; rw [Bool.and_eq_true] at ho; exact of_decide_eq_true ho.2
          have hc : f_X10_board q a b u = some (.inr (nI (bcnt (Pin (sG (r1 1) x k (nI c)) (nI c)) (rN (sG (r1 1) x k (nI c))))), q1, u2) := by
            have c1' : f_X10_rememberAct q u = some ((), q1, u1) := c1
            rw [f_X10_board_e, e2, z_bxr, f2, z_bxr, e1, f1, if_pos (pu_in hx8 (by decide)), zl, nI_clamp (by omega), h.rw.a7 hx8, if_pos hw, pc_isOpen h.rw hV (q 0) hc8, Option.bind_some, if_pos ho, c1', z_b3s, g1, Option.bind_some, pc_ridersIn g2 i1, Option.bind_some, pu_bitD i1.n8, zl]
          have hr : f_X11_board a b r = some (nI (bcnt (Pin (sG (r1 1) x k (nI c)) (nI c)) (rN (sG (r1 1) x k (nI c)))), zst r1 1 (sG (r1 1) x k (nI c))) := by
            rw [f_X11_board_e, zl, e3, if_pos rfl, zl, f3, if_pos rfl, e1, f1, pr_waits hx8, decide_eq_true hw, Option.bind_some, if_pos rfl, pr_hasRoom hV hc8, Option.bind_some, if_pos ho, zl, t00, if_pos (by decide), c2, Option.bind_some, pr_gets hV1 hx1 hk1, Option.bind_some, pr_those (by rw [zst_e]; exact i1), Option.bind_some, zst_e, pu_bits i1.n8, Option.bind_some]
          have := hV1.n8
          have := hV1.w8
          have := hk1.1
          refine ⟨_, _, _, _, _, hc, hr, c3.w1 g3 g2 i1 (c3.cap.g hV1 hx1 hk1 hc8 (by rw [ex]; exact hw) ho1) (fun j hj => sG_o (by omega) (by omega) (by omega)), ⟨c6, rfl⟩⟩
        · have hc : f_X10_board q a b u = some (.inl eIS, q, u) := by
            rw [f_X10_board_e, e2, z_bxr, f2, z_bxr, e1, f1, if_pos (pu_in hx8 (by decide)), zl, nI_clamp (by omega), h.rw.a7 hx8, if_pos hw, pc_isOpen h.rw hV (q 0) hc8, Option.bind_some, if_neg ho]
          have hr : f_X11_board a b r = some (0, z_up r 0 0 2) := by
            rw [f_X11_board_e, zl, e3, if_pos rfl, zl, f3, if_pos rfl, e1, f1, pr_waits hx8, decide_eq_true hw, Option.bind_some, if_pos rfl, pr_hasRoom hV hc8, Option.bind_some, if_neg ho, zl, t00, if_neg (by decide)]
          exact ⟨_, _, _, _, _, hc, hr, h.t 2, by simp [ANS, t00]⟩
      · have hc : f_X10_board q a b u = some (.inl eIS, q, u) := by
          rw [f_X10_board_e, e2, z_bxr, f2, z_bxr, e1, if_pos (pu_in hx8 (by decide)), zl, nI_clamp (by omega), h.rw.a7 hx8, if_neg hw]
        have hr : f_X11_board a b r = some (0, z_up r 0 0 2) := by
          rw [f_X11_board_e, zl, e3, if_pos rfl, zl, f3, if_pos rfl, e1, pr_waits hx8, decide_eq_false hw, Option.bind_some, if_neg Bool.false_ne_true, zl, t00, if_neg (by decide)]
        exact ⟨_, _, _, _, _, hc, hr, h.t 2, by simp [ANS, t00]⟩
    · have hc : f_X10_board q a b u = some (.inl eIO, q, u) := by rw [f_X10_board_e, e2, z_bxr, f2, z_bxl]
      have hr : f_X11_board a b r = some (0, z_up r 0 0 1) := by rw [f_X11_board_e, zl, e3, if_pos rfl, zl, f3, if_neg Bool.false_ne_true, zl, t00, if_neg (by decide)]
      exact ⟨_, _, _, _, _, hc, hr, h.t 1, by simp [ANS, t00]⟩
  · have hc : f_X10_board q a b u = some (.inl eIO, q, u) := by rw [f_X10_board_e, e2, z_bxl]
    have hr : f_X11_board a b r = some (0, z_up r 0 0 1) := by rw [f_X11_board_e, zl, e3, if_neg Bool.false_ne_true, zl, t00, if_neg (by decide)]
    exact ⟨_, _, _, _, _, hc, hr, h.t 1, by simp [ANS, t00]⟩
theorem s_bolt {q : zq} {u r : zU} (h : RR q u r) (a : Int32) : ∃ o q' u' x r', f_X10_bolt q a u = some (o, q', u') ∧ f_X11_bolt a r = some (x, r') ∧ RR q' u' r' ∧ ANS [(eIO, 1), (eIS, 2)] o x (r' 0 0) := by
  have hV := h.iv
  have h8 := hV.n8
  rcases need_c (q := q) (u := u) a r with ⟨c, hc8, f1, f2, f3⟩ | ⟨f2, f3⟩
  · have h9 := sm_9.mp (hV.bo hc8)
    by_cases hw : r 1 (17 + c) = 9
    · have hc : f_X10_bolt q a u = some (.inl eIS, q, u) := by
        rw [f_X10_bolt_e, f2, z_bxr, f1, if_pos (pu_in hc8 (by decide)), zl, nI_clamp (by omega), h.rw.a12 hc8, if_neg (by lia)]
      have hr : f_X11_bolt a r = some (0, z_up r 0 0 2) := by
        rw [f_X11_bolt_e, zl, f3, if_pos rfl, f1, pu_l17, if_pos (pu_in (by omega) (by decide)), zl, nI_clamp (by omega), if_pos hw, zl, t00, if_neg (by decide)]
      exact ⟨_, _, _, _, _, hc, hr, h.t 2, by simp [ANS, t00]⟩
    · obtain ⟨q1, u1, r1, c1, c2, c3, c4, c5, c6⟩ := s_rem (h.t 0)
      have hV1 := c3.iv
      have ex : r1 1 = r 1 := c5
      have hc : f_X10_bolt q a u = some (.inr (r 1 (17 + c) + 1), q1, z_up u1 12 c (r 1 (17 + c) + 1)) := by
        have c1' : f_X10_rememberAct q u = some ((), q1, u1) := c1
        rw [f_X10_bolt_e, f2, z_bxr, f1, if_pos (pu_in hc8 (by decide)), zl, nI_clamp (by omega), h.rw.a12 hc8, if_pos (by lia), c1', z_b3s, if_pos (pu_in hc8 (by decide)), zl, if_pos (pu_in hc8 (by decide)), zl, if_pos (pu_in hc8 (by decide)), zl, z_up_eq, upd_eq, c3.rw.a12 hc8, ex]
      have hr : f_X11_bolt a r = some (r 1 (17 + c) + 1, zst r1 1 (upd (r1 1) (17 + c) (r 1 (17 + c) + 1))) := by
        rw [f_X11_bolt_e, zl, f3, if_pos rfl, f1, pu_l17, if_pos (pu_in (by omega) (by decide)), zl, nI_clamp (by omega), if_neg hw, zl, t00, if_pos (by decide), c2, Option.bind_some, zl, if_pos (pu_in (by omega) (by decide)), zl, if_pos (pu_in (by omega) (by decide)), zl, if_pos (pu_in (by omega) (by decide)), zl, z_up_eq, nI_clamp (by omega), upd_eq, ex]
        rw [z_up_st, ex]
      have hk := hV1.u (k := 17 + c) (y := r 1 (17 + c) + 1) (by omega) (fun r hr => by omega) (okb_b hc8 (sm_9.mpr (by lia)))
      refine ⟨_, _, _, _, _, hc, hr, c3.w1 (Fw.rf.up (by omega)) (c3.rw.up (o := 6) (kap_1 c hc8).2.2.2.2.2 _) hk.1 (c3.cap.ex hk.2.1 (fun r hr => ⟨upd_ne (by omega), upd_ne (by omega)⟩)) (fun j hj => upd_ne (by omega)), ⟨c6, rfl⟩⟩
  · have hc : f_X10_bolt q a u = some (.inl eIO, q, u) := by rw [f_X10_bolt_e, f2, z_bxl]
    have hr : f_X11_bolt a r = some (0, z_up r 0 0 1) := by rw [f_X11_bolt_e, zl, f3, if_neg Bool.false_ne_true, zl, t00, if_neg (by decide)]
    exact ⟨_, _, _, _, _, hc, hr, h.t 1, by simp [ANS, t00]⟩
theorem s_fare {q : zq} {u r : zU} (h : RR q u r) (a : Int32) : ∃ o q' u' x r', f_X10_fare q a u = some (o, q', u') ∧ f_X11_fare a r = some (x, r') ∧ RR q' u' r' ∧ ANS [(eIA, 1)] o x (r' 0 0) := by
  have hV := h.iv
  rcases need_n (q := q) (u := u) a 0 99 r with ⟨l1, l2, f2, f3⟩ | ⟨f2, f3⟩
  · obtain ⟨q1, u1, r1, c1, c2, c3, c4, c5, c6⟩ := s_rem (h.t 0)
    have hV1 := c3.iv
    have hc : f_X10_fare q a u = some (.inr (r1 1 5), q1, z_up u1 6 10 a) := by
      have c1' : f_X10_rememberAct q u = some ((), q1, u1) := c1
      rw [f_X10_fare_e, f2, z_bxr, c1', z_b3s, zl, zl, c3.rw.s10]
    have hr : f_X11_fare a r = some (r1 1 5, zst r1 1 (upd (r1 1) 5 a)) := by
      rw [f_X11_fare_e, zl, f3, if_pos rfl, zl, t00, if_pos (by decide), c2, Option.bind_some, zl, zl]
      rfl
    have hk := hV1.u (k := 5) (y := a) (by omega) (fun r hr => by omega) (okb_5 (sm_99.mpr ⟨l1, l2⟩))
    refine ⟨_, _, _, _, _, hc, hr, c3.w1 (Fw.rf.up (by omega)) (c3.rw.u10 _) hk.1 (c3.cap.ex hk.2.1 (fun r hr => ⟨upd_ne (by omega), upd_ne (by omega)⟩)) (fun j hj => upd_ne (by omega)), ⟨c6, rfl⟩⟩
  · have hc : f_X10_fare q a u = some (.inl eIA, q, u) := by rw [f_X10_fare_e, f2, z_bxl]
    have hr : f_X11_fare a r = some (0, z_up r 0 0 1) := by rw [f_X11_fare_e, zl, f3, if_neg Bool.false_ne_true, zl, t00, if_neg (by decide)]
    exact ⟨_, _, _, _, _, hc, hr, h.t 1, by simp [ANS, t00]⟩
theorem s_dole {q : zq} {u r : zU} (h : RR q u r) (a b : Int32) : ∃ o q' u' x r', f_X10_dole q a b u = some (o, q', u') ∧ f_X11_dole a b r = some (x, r') ∧ RR q' u' r' ∧ ANS [(eIO, 1), (eIA, 2)] o x (r' 0 0) := by
  have hV := h.iv
  have h8 := hV.n8
  rcases need_r (q := q) h.rw hV a r rfl with ⟨x, hx, e1, e2, e3⟩ | ⟨e2, e3⟩
  · have hx8 : x < 8 := by omega
    rcases need_n (q := q) (u := u) b 1 (u 6 11) r with ⟨l1, l2, f2, f3⟩ | ⟨f2, f3⟩
    · obtain ⟨q1, u1, r1, c1, c2, c3, c4, c5, c6⟩ := s_rem (h.t 0)
      have hV1 := c3.iv
      have ex : r1 1 = r 1 := c5
      have h6 := sm_9999.mp hV1.v6
      have hp := sm_999.mp (hV1.pu hx8)
      rw [h.rw.s11] at l2 f3
      have k1 := hV1.u (k := 6) (y := r1 1 6 - b) (by omega) (fun r hr => by omega) (okb_6 (sm_9999.mpr (by rw [ex] at h6 ⊢; lia)))
      have R1 : RW (z_up u1 6 11 (r1 1 6 - b)) 6 (upd (r1 1) 6 (r1 1 6 - b)) := c3.rw.u11 _
      have hb6 : b ≤ 9999 := by rw [ex] at h6; lia
      have k2 := k1.1.u (k := 27 + 4 * x) (y := z_min 999 (r1 1 (27 + 4 * x) + b)) (by omega) (fun r hr => by omega) (okb_p hx8 (sm_999.mpr (by unfold z_min; split <;> lia)))
      have ep : upd (r1 1) 6 (r1 1 6 - b) (27 + 4 * x) = r1 1 (27 + 4 * x) := upd_ne (by omega)
      have hc : f_X10_dole q a b u = some (.inr (z_min 999 (r1 1 (27 + 4 * x) + b)), q1, z_up (z_up u1 6 11 (r1 1 6 - b)) 9 x (z_min 999 (r1 1 (27 + 4 * x) + b))) := by
        have c1' : f_X10_rememberAct q u = some ((), q1, u1) := c1
        rw [f_X10_dole_e, e2, z_bxr, f2, z_bxr, c1', z_b3s, zl, c3.rw.s11, e1, if_pos (pu_in hx8 (by decide)), zl, zl, if_pos (pu_in hx8 (by decide)), zl, if_pos (pu_in hx8 (by decide)), zl, nI_clamp (by omega), z_up_eq, upd_eq, R1.a9 hx8, ep]
      have hr : f_X11_dole a b r = some (z_min 999 (r1 1 (27 + 4 * x) + b), zst r1 1 (upd (upd (r1 1) 6 (r1 1 6 - b)) (27 + 4 * x) (z_min 999 (r1 1 (27 + 4 * x) + b)))) := by
        rw [f_X11_dole_e, zl, e3, if_pos rfl, zl, f3, if_pos rfl, zl, t00, if_pos (by decide), c2, Option.bind_some, zl, z_up_st, e1, pr_of2 hx8, Option.bind_some, zst_e, ep, zl, f_X11_lesser_e, z_min_eq, pr_put2 _ hx8, Option.bind_some, zst_e, zst_zst, pr_of2 hx8, Option.bind_some, zst_e, upd_eq]
      refine ⟨_, _, _, _, _, hc, hr, c3.w1 ((Fw.rf.up (by omega)).up (by omega)) (R1.up (o := 3) (kap_1 x hx8).2.2.1 _) k2.1 (c3.cap.ex (k2.2.1.trans k1.2.1) (fun r hr => by have := hV1.n8; rw [upd_ne (by omega), upd_ne (by omega), upd_ne (by omega), upd_ne (by omega)]; exact ⟨rfl, rfl⟩)) (fun j hj => by rw [upd_ne (by omega), upd_ne (by omega)]), ⟨c6, rfl⟩⟩
    · rw [h.rw.s11] at f3
      have hc : f_X10_dole q a b u = some (.inl eIA, q, u) := by rw [f_X10_dole_e, e2, z_bxr, f2, z_bxl]
      have hr : f_X11_dole a b r = some (0, z_up r 0 0 2) := by rw [f_X11_dole_e, zl, e3, if_pos rfl, zl, f3, if_neg Bool.false_ne_true, zl, t00, if_neg (by decide)]
      exact ⟨_, _, _, _, _, hc, hr, h.t 2, by simp [ANS, t00]⟩
  · have hc : f_X10_dole q a b u = some (.inl eIO, q, u) := by rw [f_X10_dole_e, e2, z_bxl]
    have hr : f_X11_dole a b r = some (0, z_up r 0 0 1) := by rw [f_X11_dole_e, zl, e3, if_neg Bool.false_ne_true, zl, t00, if_neg (by decide)]
    exact ⟨_, _, _, _, _, hc, hr, h.t 1, by simp [ANS, t00]⟩
theorem tp0 : ∀ t, t < 8 → ∀ n, n < 8 → (nI t + nI n) &&& 7 = nI ((t + n) % 8) ∧ z_rem (nI t + nI n) 8 = nI ((t + n) % 8) := by decide +kernel
theorem br0 {n : Nat} {c : Int32} (hn : n < 8) (h3 : 10 * nI n ≤ c) (h4 : sm c 9999) : sm (c - 10 * nI n) 9999 := by
  obtain ⟨m, hm, rfl⟩ := h4
  rw [show (10 : Int32) = nI 10 from rfl, pu_mul, nI_leI (by omega) (by omega)] at h3
  rw [show (10 : Int32) = nI 10 from rfl, pu_mul, pk_sub h3]
  exact ⟨m - 10 * n, by omega, rfl⟩
theorem br1 {a : Int32} (h2 : a ≤ 7) : a < 8 := by lia
theorem br2 {a : Int32} (h2 : 1 ≤ a) : ¬ a < 0 := by lia
theorem s_bribe {q : zq} {u r : zU} (h : RR q u r) (a : Int32) : ∃ o q' u' x r', f_X10_bribe q a u = some (o, q', u') ∧ f_X11_bribe a r = some (x, r') ∧ RR q' u' r' ∧ ANS [(eIA, 1), (eIS, 2)] o x (r' 0 0) := by
  have hV := h.iv
  rcases need_n (q := q) (u := u) a 1 7 r with ⟨l1, l2, f2, f3⟩ | ⟨f2, f3⟩
  · by_cases hw : (10 : Int32) * a ≤ r 1 6
    · obtain ⟨q1, u1, r1, c1, c2, c3, c4, c5, c6⟩ := s_rem (h.t 0)
      have hV1 := c3.iv
      have ex : r1 1 = r 1 := c5
      obtain ⟨n, hn, rfl⟩ := nI_of (br2 l1)
      have hn8 : n < 8 := (nI_ltI (b := 8) hn (by decide)).mp (br1 l2)
      have h60 := br0 (c := r1 1 6) hn8 (by rw [ex]; exact hw) hV1.v6
      have k1 := hV1.u (k := 6) (y := r1 1 6 - 10 * nI n) (by omega) (fun r hr => by omega) (okb_6 h60)
      have k2 := k1.1.ut (t := (tP (r1 1) + n) % 8) (Nat.mod_lt _ (by decide))
      have R1 : RW (z_up u1 6 11 (r1 1 6 - 10 * nI n)) 6 (upd (r1 1) 6 (r1 1 6 - 10 * nI n)) := c3.rw.u11 _
      have e4 : upd (r1 1) 6 (r1 1 6 - 10 * nI n) 4 = nI (tP (r1 1)) := by rw [upd_ne (by decide)]; exact hV1.t
      have et := tp0 _ hV1.t8 n hn8
      have hc : f_X10_bribe q (nI n) u = some (.inr (nI ((tP (r1 1) + n) % 8)), q1, z_up (z_up u1 6 11 (r1 1 6 - 10 * nI n)) 6 14 (nI ((tP (r1 1) + n) % 8))) := by
        have c1' : f_X10_rememberAct q u = some ((), q1, u1) := c1
        rw [f_X10_bribe_e, f2, z_bxr, h.rw.s11, if_pos hw, c1', z_b3s, zl, zl, c3.rw.s11, R1.s14, e4, et.1, z_up_eq, upd_eq]
      have hr : f_X11_bribe (nI n) r = some (nI ((tP (r1 1) + n) % 8), zst r1 1 (upd (upd (r1 1) 6 (r1 1 6 - 10 * nI n)) 4 (nI ((tP (r1 1) + n) % 8)))) := by
        rw [f_X11_bribe_e, zl, f3, if_pos rfl, if_pos hw, zl, t00, if_pos (by decide), c2, Option.bind_some, zl, zl, z_up_st, z_up_st, zst_zst, zst_e, zst_e, e4, et.2, upd_eq]
      refine ⟨_, _, _, _, _, hc, hr, c3.w1 ((Fw.rf.up (by omega)).up (by omega)) (R1.u14 _) k2.1 (c3.cap.ex (k2.2.1.trans k1.2.1) (fun r hr => by rw [upd_ne (by omega), upd_ne (by omega), upd_ne (by omega), upd_ne (by omega)]; exact ⟨rfl, rfl⟩)) (fun j hj => by rw [upd_ne (by omega), upd_ne (by omega)]), ⟨c6, rfl⟩⟩
    · have hc : f_X10_bribe q a u = some (.inl eIS, q, u) := by rw [f_X10_bribe_e, f2, z_bxr, h.rw.s11, if_neg hw]
      have hr : f_X11_bribe a r = some (0, z_up r 0 0 2) := by rw [f_X11_bribe_e, zl, f3, if_pos rfl, if_neg hw, zl, t00, if_neg (by decide)]
      exact ⟨_, _, _, _, _, hc, hr, h.t 2, by simp [ANS, t00]⟩
  · have hc : f_X10_bribe q a u = some (.inl eIA, q, u) := by rw [f_X10_bribe_e, f2, z_bxl]
    have hr : f_X11_bribe a r = some (0, z_up r 0 0 1) := by rw [f_X11_bribe_e, zl, f3, if_neg Bool.false_ne_true, zl, t00, if_neg (by decide)]
    exact ⟨_, _, _, _, _, hc, hr, h.t 1, by simp [ANS, t00]⟩
/-! one who sits moves over -/
theorem IV.mv {v : Nat → Int32} (h : IV v) {x d : Nat} (hx : x < rN v) (hs : v (25 + 4 * x) ≠ -1) (hd : d < 8) : IV (upd v (25 + 4 * x) (nI d)) ∧ rN (upd v (25 + 4 * x) (nI d)) = rN v := by
  have h8 := h.n8
  have hw := h.w8
  have e3 : upd v (25 + 4 * x) (nI d) 3 = v 3 := upd_ne (by omega)
  have e4 : upd v (25 + 4 * x) (nI d) 4 = v 4 := upd_ne (by omega)
  have e10 : upd v (25 + 4 * x) (nI d) 10 = v 10 := upd_ne (by omega)
  have eN := rN_of e3
  have eT := tP_of e4
  have eW : wN (upd v (25 + 4 * x) (nI d)) = wN v := by unfold wN; rw [e10]
  have epl : ∀ r, r ≠ x → upd v (25 + 4 * x) (nI d) (25 + 4 * r) = v (25 + 4 * r) := fun r hr => upd_ne (by omega)
  have ero : ∀ i, i < 8 → upd v (25 + 4 * x) (nI d) (57 + i) = v (57 + i) := fun i hi => upd_ne (by omega)
  have hm : nI d ≠ -1 := pu_m1 (by omega)
  obtain ⟨c1, c2, c3⟩ := h.2.2
  refine ⟨⟨⟨⟨by rw [e3, eN]; exact h.n, by rw [eN]; exact h8⟩, ⟨by rw [e4, eT]; exact h.t, by rw [eT]; exact h.t8⟩, ⟨by rw [e10, eW]; exact h.w, ?_⟩, fun r hr => ?_⟩, ?_, fun i hi => ?_, fun i j hi hj hij => ?_, fun y hy hp => ?_⟩, eN⟩
  · rw [eW, eN, h.wc]
    refine bcnt_ext _ (fun k hk => ?_)
    by_cases e : k = x
    · subst e; rw [upd_eq, decide_eq_false hs, decide_eq_false hm]
    · rw [epl k e]
  · rw [eN] at hr
    by_cases e : r = x
    · subst e; exact Or.inr ⟨d, hd, upd_eq⟩
    · rw [epl r e]; exact h.pl hr
  · exact h.2.1.ex (fun k h1 h2 h3 => upd_ne (h3 x (by omega)))
  · rw [eW] at hi
    obtain ⟨y, y1, y2, y3⟩ := c1 i hi
    have hyx : y ≠ x := fun e => hs (by rw [← e]; exact y3)
    exact ⟨y, by rw [eN]; exact y1, by rw [ero i (by omega)]; exact y2, by rw [epl y hyx]; exact y3⟩
  · rw [eW] at hi hj
    rw [ero i (by omega), ero j (by omega)] at hij
    exact c2 i j hi hj hij
  · rw [eN] at hy
    have hyx : y ≠ x := fun e => by subst e; rw [upd_eq] at hp; exact hm hp
    rw [epl y hyx] at hp
    obtain ⟨i, i1, i2⟩ := c3 y hy hp
    exact ⟨i, by rw [eW]; exact i1, by rw [ero i (by omega)]; exact i2⟩
theorem CAP.mv {v : Nat → Int32} (h : CAP v) (hV : IV v) {x d : Nat} (hx : x < rN v) (hs : v (25 + 4 * x) ≠ -1) (hd : d < 8) (hne : v (25 + 4 * x) ≠ nI d) (ho : bcnt (Pin v (nI d)) (rN v) < 2) : CAP (upd v (25 + 4 * x) (nI d)) := by
  refine ⟨fun c hc => ?_, fun r hr => by rw [(hV.mv hx hs hd).2] at hr; rw [upd_ne (by omega)]; exact h.2 r hr⟩
  rw [(hV.mv hx hs hd).2]
  by_cases e : c = d
  · subst e
    have := bcnt_up (Pin v (nI c)) (Pin (upd v (25 + 4 * x) (nI c)) (nI c)) (x := x) (rN v) (fun r hr hn => by unfold Pin; rw [upd_ne (by omega)]) hx (decide_eq_false hne) (decide_eq_true upd_eq)
    omega
  · refine Nat.le_trans (bcnt_mono _ (fun k hk hq => ?_)) (h.1 c hc)
    by_cases e2 : k = x
    · subst e2
      have := of_decide_eq_true hq
      rw [upd_eq, nI_eq (by omega) (by omega)] at this
      omega
    · unfold Pin at hq ⊢
      rw [upd_ne (by omega)] at hq
      exact hq
theorem mv0 : ∀ c, c < 8 → ((nI c + 1) &&& 7 = nI ((c + 1) % 8) ∧ z_rem (nI c + 1) 8 = nI ((c + 1) % 8)) ∧ ((nI c - 1) &&& 7 = nI ((c + 7) % 8) ∧ z_rem (nI c + 7) 8 = nI ((c + 7) % 8)) := by decide +kernel
theorem s_move {q : zq} {u r : zU} (h : RR q u r) (a : Int32) (b : Bool) : ∃ o q' u' x r', f_X10_move q a b u = some (o, q', u') ∧ f_X11_move a b r = some (x, r') ∧ RR q' u' r' ∧ ANS [(eIO, 1), (eIS, 2)] o x (r' 0 0) := by
  have hV := h.iv
  have h8 := hV.n8
  have hV0 : IV ((z_up r 0 0 0) 1) := hV
  rcases need_r (q := q) h.rw hV a r rfl with ⟨x, hx, e1, e2, e3⟩ | ⟨e2, e3⟩
  · have hx8 : x < 8 := by omega
    rcases hV.pl hx with hw | ⟨c, hc8, hw⟩
    · have hc : f_X10_move q a b u = some (.inl eIS, q, u) := by
        rw [f_X10_move_e, e2, z_bxr, e1, if_pos (pu_in hx8 (by decide)), zl, nI_clamp (by omega), h.rw.a7 hx8]
        cases b with
        | true => rw [if_pos rfl, zl, if_pos hw]
        | false => rw [if_neg Bool.false_ne_true, zl, if_pos hw]
      have hr : f_X11_move a b r = some (0, z_up (z_up r 0 0 0) 0 0 2) := by
        rw [f_X11_move_e, zl, e3, if_pos rfl, zl, t00, if_pos (by decide), e1, pr_waits hx8, t01, decide_eq_true hw, Option.bind_some, if_pos rfl, Option.bind_some, if_pos rfl, zl, t00, if_neg (by decide)]
      exact ⟨_, _, _, _, _, hc, hr, (h.t 0).t 2, by simp [ANS, t00]⟩
    · have hm : r 1 (25 + 4 * x) ≠ -1 := by rw [hw]; exact pu_m1 (by omega)
      obtain ⟨⟨m1, m2⟩, m3, m4⟩ := mv0 c hc8
      -- the cradle that is meant
      have key : ∃ d, d < 8 ∧ d ≠ c ∧ (∀ X : Int32, X = nI d → True) ∧ (if b = true then ((nI c + 1) &&& 7) else ((nI c - 1) &&& 7)) = nI d ∧ (if b = true then z_rem (nI c + 1) 8 else z_rem (nI c + 7) 8) = nI d := by
        cases b with
        | true => exact ⟨(c + 1) % 8, Nat.mod_lt _ (by decide), by omega, fun _ _ => trivial, by rw [if_pos rfl]; exact m1, by rw [if_pos rfl]; exact m2⟩
        | false => exact ⟨(c + 7) % 8, Nat.mod_lt _ (by decide), by omega, fun _ _ => trivial, by rw [if_neg Bool.false_ne_true]; exact m3, by rw [if_neg Bool.false_ne_true]; exact m4⟩
      obtain ⟨d, hd8, hdc, -, kd1, kd2⟩ := key
      by_cases ho : sOpen (r 1) d = true
      · obtain ⟨q1, u1, r1, c1, c2, c3, c4, c5, c6⟩ := s_rem ((h.t 0).t 0)
        have hV1 := c3.iv
        have ex : r1 1 = r 1 := c5
        have c1' : f_X10_rememberAct q u = some ((), q1, u1) := c1
        have hc : f_X10_move q a b u = some (.inr (nI d), q1, z_up u1 7 x (nI d)) := by
          rw [f_X10_move_e, e2, z_bxr, e1, if_pos (pu_in hx8 (by decide)), zl, nI_clamp (by omega), h.rw.a7 hx8]
          cases b with
          | true =>
            rw [if_pos rfl] at kd1
            rw [if_pos rfl, zl, if_neg hm, hw, kd1, pc_isOpen h.rw hV (q 0) hd8, Option.bind_some, if_pos ho, c1', z_b3s, if_pos (pu_in hx8 (by decide)), zl]
          | false =>
            rw [if_neg Bool.false_ne_true] at kd1
            rw [if_neg Bool.false_ne_true, zl, if_neg hm, hw, kd1, pc_isOpen h.rw hV (q 0) hd8, Option.bind_some, if_pos ho, c1', z_b3s, if_pos (pu_in hx8 (by decide)), zl]
        have hr : f_X11_move a b r = some (nI d, zst r1 1 (upd (r1 1) (25 + 4 * x) (nI d))) := by
          rw [f_X11_move_e, zl, e3, if_pos rfl, zl, t00, if_pos (by decide), e1, pr_waits hx8, t01, decide_eq_false hm, Option.bind_some, if_neg Bool.false_ne_true, pr_of0 hx8, Option.bind_some, t01, hw]
          cases b with
          | true =>
            rw [if_pos rfl] at kd2
            rw [if_pos rfl, kd2, zl, Option.bind_some, if_neg Bool.false_ne_true, pr_hasRoom hV0 hd8, t01, Option.bind_some, if_pos ho, zl, t00, if_pos (by decide), c2, Option.bind_some, pr_put0 _ hx8, Option.bind_some]
          | false =>
            rw [if_neg Bool.false_ne_true] at kd2
            rw [if_neg Bool.false_ne_true, kd2, zl, Option.bind_some, if_neg Bool.false_ne_true, pr_hasRoom hV0 hd8, t01, Option.bind_some, if_pos ho, zl, t00, if_pos (by decide), c2, Option.bind_some, pr_put0 _ hx8, Option.bind_some]
        have hx1 : x < rN (r1 1) := by rw [ex]; exact hx
        have hs1 : r1 1 (25 + 4 * x) ≠ -1 := by rw [ex]; exact hm
        have i1 := hV1.mv hx1 hs1 hd8
        refine ⟨_, _, _, _, _, hc, hr, c3.w1 (Fw.rf.up (by omega)) (c3.rw.up (o := 1) (kap_1 x hx8).1 _) i1.1 (c3.cap.mv hV1 hx1 hs1 hd8 (by rw [ex, hw]; exact fun e => hdc ((nI_eq (by omega) (by omega)).mp e).symm) (by rw [ex]; unfold sOpen at ho; rw [Bool.and_eq_true] at ho; exact of_decide_eq_true ho.2)) (fun j hj => upd_ne (by omega)), ⟨c6, rfl⟩⟩
      · have hc : f_X10_move q a b u = some (.inl eIS, q, u) := by
          rw [f_X10_move_e, e2, z_bxr, e1, if_pos (pu_in hx8 (by decide)), zl, nI_clamp (by omega), h.rw.a7 hx8]
          cases b with
          | true =>
            rw [if_pos rfl] at kd1
            rw [if_pos rfl, zl, if_neg hm, hw, kd1, pc_isOpen h.rw hV (q 0) hd8, Option.bind_some, if_neg ho]
          | false =>
            rw [if_neg Bool.false_ne_true] at kd1
            rw [if_neg Bool.false_ne_true, zl, if_neg hm, hw, kd1, pc_isOpen h.rw hV (q 0) hd8, Option.bind_some, if_neg ho]
        have hr : f_X11_move a b r = some (0, z_up (z_up r 0 0 0) 0 0 2) := by
          rw [f_X11_move_e, zl, e3, if_pos rfl, zl, t00, if_pos (by decide), e1, pr_waits hx8, t01, decide_eq_false hm, Option.bind_some, if_neg Bool.false_ne_true, pr_of0 hx8, Option.bind_some, t01, hw]
          cases b with
          | true =>
            rw [if_pos rfl] at kd2
            rw [if_pos rfl, kd2, zl, Option.bind_some, if_neg Bool.false_ne_true, pr_hasRoom hV0 hd8, t01, Option.bind_some, if_neg ho, zl, t00, if_neg (by decide)]
          | false =>
            rw [if_neg Bool.false_ne_true] at kd2
            rw [if_neg Bool.false_ne_true, kd2, zl, Option.bind_some, if_neg Bool.false_ne_true, pr_hasRoom hV0 hd8, t01, Option.bind_some, if_neg ho, zl, t00, if_neg (by decide)]
        exact ⟨_, _, _, _, _, hc, hr, (h.t 0).t 2, by simp [ANS, t00]⟩
  · have hc : f_X10_move q a b u = some (.inl eIO, q, u) := by rw [f_X10_move_e, e2, z_bxl]
    have hr : f_X11_move a b r = some (0, z_up r 0 0 1) := by rw [f_X11_move_e, zl, e3, if_neg Bool.false_ne_true, zl, t00, if_neg (by decide)]
    exact ⟨_, _, _, _, _, hc, hr, h.t 1, by simp [ANS, t00]⟩
