/-! PURE, 23: stops -/
theorem jn0 : ∀ nx, nx < 60 → z_rem (nI nx + 1) 60 = nI ((nx + 1) % 60) ∧ nI nx * 4 = nI (nx * 4) := by decide +kernel
theorem jn1 : ∀ k, k < 61 → z_min 60 (nI k + 1) = nI (min 60 (k + 1)) := by decide +kernel
theorem pj_add {u : zU} {j : Nat} {v v' : Nat → Int32} (h : JN u j v) (a b c d : Int32) (h5 : v' 65 = a) (h6 : v' 66 = b) (h7 : v' 67 = c) (h8 : v' 68 = d) (h9 : ∀ k, 69 ≤ k → k < 305 → v' k = v (k - 4)) (h11 : v' 11 = z_min 60 (v 11 + 1)) : ∃ u', f_X2_add j a b c d u = some u' ∧ JN u' j v' ∧ ∀ r, r ≠ j → r ≠ j + 1 → u' r = u r := by
  obtain ⟨k, nx, a1, a2, a3, a4, a5, a6⟩ := h
  have e4 := (jn0 nx a2).2
  refine ⟨z_up (z_up (z_up (z_up (z_up (z_up u (j + 1) (nx * 4) a) (j + 1) (nx * 4 + 1) b) (j + 1) (nx * 4 + 2) c) (j + 1) (nx * 4 + 3) d) j 1 (nI ((nx + 1) % 60))) j 2 (nI (min 60 (k + 1))), ?_, ?_, ?_⟩
  · rw [f_X2_add_e, a4, zl, e4, if_neg (nI_pos (by omega)), show nI (nx * 4) + (4 : Int32) = nI (nx * 4 + 4) from nI_add _ 4, if_neg (show ¬ (240 : Int32) < nI (nx * 4 + 4) from nI_nlt (a := 240) (by omega) (by decide)), if_pos (pu_in (by omega) (by decide)), zl, show nI (nx * 4) + (1 : Int32) = nI (nx * 4 + 1) from nI_add _ 1, show nI (nx * 4) + (2 : Int32) = nI (nx * 4 + 2) from nI_add _ 2, show nI (nx * 4) + (3 : Int32) = nI (nx * 4 + 3) from nI_add _ 3, if_pos (pu_in (by omega) (by decide)), zl, if_pos (pu_in (by omega) (by decide)), zl, if_pos (pu_in (by omega) (by decide)), zl, zl, zl, zl, nI_clamp (by omega), nI_clamp (by omega), nI_clamp (by omega), nI_clamp (by omega)]
    rw [z_up_ne (show j ≠ j + 1 by omega), z_up_ne (show j ≠ j + 1 by omega), z_up_ne (show j ≠ j + 1 by omega), z_up_ne (show j ≠ j + 1 by omega), a4, (jn0 nx a2).1, z_up_eq, upd_ne (by decide), z_up_ne (show j ≠ j + 1 by omega), z_up_ne (show j ≠ j + 1 by omega), z_up_ne (show j ≠ j + 1 by omega), z_up_ne (show j ≠ j + 1 by omega), a3, jn1 k (by omega)]
  · have hcell : ∀ i, (z_up (z_up (z_up (z_up (z_up (z_up u (j + 1) (nx * 4) a) (j + 1) (nx * 4 + 1) b) (j + 1) (nx * 4 + 2) c) (j + 1) (nx * 4 + 3) d) j 1 (nI ((nx + 1) % 60))) j 2 (nI (min 60 (k + 1)))) (j + 1) i = upd (upd (upd (upd (u (j + 1)) (nx * 4) a) (nx * 4 + 1) b) (nx * 4 + 2) c) (nx * 4 + 3) d i := fun i => by
      rw [z_up_ne (by omega), z_up_ne (by omega), z_up_eq, z_up_eq, z_up_eq, z_up_eq]
    refine ⟨min 60 (k + 1), (nx + 1) % 60, by omega, Nat.mod_lt _ (by decide), by rw [z_up_eq, upd_eq], by rw [z_up_eq, upd_ne (by decide), z_up_eq, upd_eq], by rw [h11, a5, jn1 k (by omega)], fun ago col b1 b2 => ?_⟩
    rw [hcell]
    by_cases h0 : ago = 0
    · subst h0
      have e : ((nx + 1) % 60 + 59 - 0) % 60 = nx := by omega
      rw [e]
      match col, b2 with
      | 0, _ => rw [upd_ne (by omega), upd_ne (by omega), upd_ne (by omega)]; exact upd_eq.trans h5.symm
      | 1, _ => rw [upd_ne (by omega), upd_ne (by omega)]; exact upd_eq.trans h6.symm
      | 2, _ => rw [upd_ne (by omega)]; exact upd_eq.trans h7.symm
      | 3, _ => exact upd_eq.trans h8.symm
    · have e : ((nx + 1) % 60 + 59 - ago) % 60 = (nx + 59 - (ago - 1)) % 60 := by omega
      have hne : (nx + 59 - (ago - 1)) % 60 ≠ nx := by omega
      rw [e, upd_ne (by omega), upd_ne (by omega), upd_ne (by omega), upd_ne (by omega), a6 (ago - 1) col (by omega) b2, h9 _ (by omega) (by omega)]
      congr 1
      omega
  · intro r r1 r2
    rw [z_up_ne r1, z_up_ne r1, z_up_ne r2, z_up_ne r2, z_up_ne r2, z_up_ne r2]
/-- the log of the reference's row behind a stop -/
theorem rIt_log {v : Nat → Int32} (hV : IV v) (T : zT) (e : Nat) (wd : Bool) : rIt v T e wd 65 = v 9 ∧ rIt v T e wd 66 = sV1 v T e 4 ∧ rIt v T e wd 67 = sHg v T e ∧ rIt v T e wd 68 = sHp v T e ∧ (∀ k, 69 ≤ k → k < 305 → rIt v T e wd k = v (k - 4)) ∧ rIt v T e wd 11 = z_min 60 (v 11 + 1) ∧ rIt v T e wd 4 = sV1 v T e 4 := by
  obtain ⟨⟨i1, i2, i3⟩, i4, i5⟩ := sH5_I hV T e wd
  have hk : ∀ k, k ≠ 9 → rIt v T e wd k = sLog (sH5 v T e wd) (sHg v T e) (sHp v T e) k := fun k hk => by unfold rIt; rw [upd_ne hk]
  refine ⟨?_, ?_, ?_, ?_, fun k h1 h2 => ?_, ?_, ?_⟩
  · rw [hk 65 (by decide)]; unfold sLog; rw [if_pos rfl]; exact i4
  · rw [hk 66 (by decide)]; unfold sLog; rw [if_neg (by decide), if_pos rfl]; exact i5
  · rw [hk 67 (by decide)]; unfold sLog; rw [if_neg (by decide), if_neg (by decide), if_pos rfl]
  · rw [hk 68 (by decide)]; unfold sLog; rw [if_neg (by decide), if_neg (by decide), if_neg (by decide), if_pos rfl]
  · rw [hk k (by omega)]
    unfold sLog
    rw [if_neg (by omega), if_neg (by omega), if_neg (by omega), if_neg (by omega), if_pos ⟨h1, h2⟩]
    exact i3 _ (by omega)
  · rw [hk 11 (by decide)]
    unfold sLog
    rw [if_neg (by decide), if_neg (by decide), if_neg (by decide), if_neg (by decide), if_neg (by decide), if_pos rfl, i3 11 (by omega)]
  · rw [hk 4 (by decide)]
    unfold sLog
    rw [if_neg (by decide), if_neg (by decide), if_neg (by decide), if_neg (by decide), if_neg (by decide), if_neg (by decide)]
    exact i5
/-- the main wheel and the journal change, and the reference's row with its log -/
theorem RRb.st {q : zq} {u u1 u' r r' : zU} {T T' : zT} (h : RRb q u r T T') (hF : Fr 6 (q 0) u u1) (hC : CL u1 (q 0) T) (hG : ∀ x, x ≠ 36 → x ≠ 37 → u' x = u1 x) (hR : RW u1 6 (r' 1)) (hV : IV (r' 1)) (hP : CAP (r' 1)) (hJ : JN u' 36 (r' 1)) (he : ∀ j, j < 3 ∨ 305 ≤ j → r' 1 j = r 1 j) (h2 : r' 2 = r 2) (h4 : r' 4 = r 4) (h5 : r' 5 = r 5) (h03 : r' 0 3 = r 0 3) (h06 : r' 0 6 = r 0 6) (h08 : r' 0 8 = r 0 8) (h012 : r' 0 12 = r 0 12) : RRb q u' r' T T' := by
  obtain ⟨⟨⟨a1, a2, a3, a4⟩, a5, a6, a7, a8⟩, b, c, d, e, f, g⟩ := h
  have hX := hF.x (Or.inl rfl) a7
  have e0 : u' 0 = u 0 := (hG 0 (by omega) (by omega)).trans (hX.lo (by omega))
  have hT : RLw (r' 1) T := a4.ex (he 1 (by omega)) (he 2 (by omega)) (fun k h1 _ => he k (by omega))
  have hGt : FrG u1 u' := ⟨fun r b1 b2 b3 b4 b5 => hG r b3 b4, fun j hj => by rw [hG 0 (by omega) (by omega)]⟩
  have fA := f.fr hX h06 h4 (he 1 (by omega)) (he 2 (by omega)) (u' := u1) (r' := r')
  have gP : PIc q u1 r' T T' := g.fr (Or.inl rfl) a7 hF hC h03 h2
  have dT : TPe u1 r' := d.fr hX h08 h5
  refine ⟨⟨⟨hR.fr (fun r b1 b2 => hG r (by omega) (by omega)), hV, hGt.cl a7 hC, hT⟩, a5, ?_, a7, hP⟩, hJ, ⟨by rw [e0, he 0 (by omega)]; exact c.1, by rw [he 0 (by omega)]; exact c.2⟩, dT.g hGt rfl rfl, by rw [e0, h012]; exact e, ?_, gP.g hGt rfl rfl rfl rfl⟩
  · rw [hGt.law a7 (by decide), a7.k0 (Or.inl rfl) hF, he 1 (by omega)]; exact a6
  · obtain ⟨a, x, c1, c2, c3, c4, c5, c6⟩ := fA
    refine ⟨a, x, c1, c2, by rw [hG 38 (by omega) (by omega)]; exact c3, c4, by rw [hG 38 (by omega) (by omega)]; exact c5, fun b hbb => ?_⟩
    obtain ⟨m1, m2⟩ := c6 b hbb
    have hl2 : (x + 12 - a + b) % 12 < 12 := Nat.mod_lt _ (by decide)
    exact ⟨hGt.kp (by omega) m1, m2⟩
theorem z_let2s {α β γ : Type} (a : α) (b : β) (f : α → β → γ) : z_let2 (a, b) f = f a b := Eq.trans rfl rfl
theorem p_stops {q : zq} {T T' : zT} {N : Nat} (hN : N ≤ 60) : ∀ d k fuel (s : Int32) (u r : zU), k + d = N → d < fuel → RRb q u r T T' → ∃ y u' r', f_X10_stops_15 q fuel (nI N) s (nI k) u = some (.inr y, q, u') ∧ f_X11_goes_5 fuel (nI N) (-1) s (nI k) r = some (y, r') ∧ RRb q u' r' T T' ∧ r' 0 0 = r 0 0 := by
  intro d
  induction d with
  | zero =>
    intro k fuel s u r hk hfu h
    obtain ⟨n, rfl⟩ : ∃ n, fuel = n + 1 := ⟨fuel - 1, by omega⟩
    obtain rfl : k = N := by omega
    rw [f_X10_stops_15_s, if_pos (nI_le (Nat.le_refl _) (by omega)), pr_goE n (by omega)]
    exact ⟨s, u, r, rfl, rfl, h, rfl⟩
  | succ d ih =>
    intro k fuel s u r hk hfu h
    obtain ⟨n, rfl⟩ : ∃ n, fuel = n + 1 := ⟨fuel - 1, by omega⟩
    obtain ⟨hS, hB, h1, hL, hP⟩ := h.1
    have hJ := h.2.1
    have hAp := hL.ap (i := 0) (by decide)
    obtain ⟨u1, e1, S1, F1, j1⟩ := hS.draw hAp
    obtain ⟨d1, d2⟩ := sDr_c hS.2.1
    have e7 : sD (r 1) 7 = r 1 7 := upd_ne (by decide)
    obtain ⟨u2, e2, S2, F2, k1, k2⟩ := S1.halt hAp hB (dr := rnd (r 1)) (e := sDr (r 1)) (by rw [e7]; exact d1) (by omega) true
    obtain ⟨r1, g1, g2, g3⟩ := pr_goD hS.2.1 hS.2.2.2 hB n (N := N) (k := k) (by omega) (by omega) s
    have F12 := F1.tr F2
    have hX := F12.x (Or.inl rfl) hL
    obtain ⟨l1, l2, l3, l4, l5, l6, l7⟩ := rIt_log S1.2.1 T (sDr (r 1)) true
    have hJ2 : JN u2 36 (r 1) := hJ.fr (hX.lo (by omega)) (hX.lo (by omega)) rfl (fun _ _ _ => rfl)
    have hd : ∀ j, j ≠ 12 → sD (r 1) j = r 1 j := fun j hj => upd_ne hj
    obtain ⟨u3, e3, J3, G3⟩ := pj_add (v' := rIt (sD (r 1)) T (sDr (r 1)) true) hJ2 (u 6 15) (u2 6 14) (u2 6 17) (u2 6 18) (by rw [l1, hd 9 (by decide)]; exact hS.1.s15.symm) (by rw [l2, S2.1.s14, l7]) (by rw [l3, k1]) (by rw [l4, k2]) (fun k b1 b2 => by rw [l5 k b1 b2]; exact hd _ (by omega)) (by rw [l6, hd 11 (by decide)])
    have hr3 : RRb q u3 r1 T T' := by
      obtain ⟨f2, f3, f4, f5, f00, f03, f06, f08, f012⟩ := g3
      obtain ⟨i1, i2, i3⟩ := rIt_I S1.2.1 T (sDr (r 1)) true
      refine h.st (r' := r1) F12 S2.2.2.1 G3 (by rw [g2]; exact S2.1) (by rw [g2]; exact S2.2.1) ?_ (by rw [g2]; exact J3) (fun j hj => ?_) f2 f4 f5 f03 f06 f08 f012
      · rw [g2]
        refine CAP.it ?_ S1.2.1 T _ true
        exact hP.ex (hS.2.1.d).2.1 (fun r hr => ⟨hd _ (by have := hS.2.1.n8; omega), hd _ (by have := hS.2.1.n8; omega)⟩)
      · rw [g2, i3 j (by omega)]; exact hd j (by omega)
    obtain ⟨y, u', r', y1, y2, y3, y4⟩ := ih (k + 1) n (s + sHp (sD (r 1)) T (sDr (r 1))) u3 r1 (by omega) (by omega) hr3
    refine ⟨y, u', r', ?_, ?_, y3, y4.trans g3.2.2.2.2.1⟩
    · rw [f_X10_stops_15_s, if_neg (nI_ge (by omega) (by omega)), zl, e1, z_let2s, e2, Option.bind_some, e3, Option.bind_some, zl, G3 6 (by omega) (by omega), k2, nI_1]
      exact y1
    · rw [g1]; exact y2
theorem s_stops {q : zq} {u r : zU} (h : RR q u r) (a : Int32) : ∃ o q' u' x r', f_X10_stops q a u = some (o, q', u') ∧ f_X11_stops a r = some (x, r') ∧ RR q' u' r' ∧ ANS [(eIA, 1)] o x (r' 0 0) := by
  rcases need_n (q := q) (u := u) a 1 60 r with ⟨l1, l2, f2, f3⟩ | ⟨f2, f3⟩
  · obtain ⟨q1, u1, r1, c1, c2, ⟨T, T', c3⟩, c4, c5, c6⟩ := s_rem (h.t 0)
    obtain ⟨n, hn, rfl⟩ := nI_of (br2 l1)
    have hn60 : n ≤ 60 := (nI_leI (b := 60) hn (by decide)).mp l2
    obtain ⟨y, u', r', y1, y2, y3, y4⟩ := p_stops (q := q1) (T := T) (T' := T') hn60 n 0 5000 0 u1 r1 (by omega) (by omega) c3
    have hc : f_X10_stops q (nI n) u = some (.inr y, q1, u') := by
      have c1' : f_X10_rememberAct q u = some ((), q1, u1) := c1
      rw [f_X10_stops_e, f2, z_bxr, c1', z_b3s]; exact y1
    have hr : f_X11_stops (nI n) r = some (y, r') := by
      have y2' : f_X11_goes (nI n) (-1) r1 = some (y, r') := by rw [f_X11_goes_e]; exact y2
      rw [f_X11_stops_e, zl, f3, if_pos rfl, zl, t00, if_pos (by decide), c2, Option.bind_some, y2', z_b2s]
    exact ⟨_, _, _, _, _, hc, hr, ⟨T, T', y3⟩, ⟨y4.trans c6, rfl⟩⟩
  · have hc : f_X10_stops q a u = some (.inl eIA, q, u) := by rw [f_X10_stops_e, f2, z_bxl]
    have hr : f_X11_stops a r = some (0, z_up r 0 0 1) := by rw [f_X11_stops_e, zl, f3, if_neg Bool.false_ne_true, zl, t00, if_neg (by decide)]
    exact ⟨_, _, _, _, _, hc, hr, h.t 1, by simp [ANS, t00]⟩
