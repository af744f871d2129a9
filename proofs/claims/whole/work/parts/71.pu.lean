/-! PURE, 22: undo, image, back -/
theorem fm12 : ∀ x, x < 12 → fmC (nI x - 1) 12 = nI ((x + 11) % 12) := by decide +kernel
/-- going to the s-th Keep: what comes of the main wheel, journal, texts -/
theorem p_goTo {q : zq} {u : zU} {v : Nat → Int32} {s : Nat} (hs : s < 13) (hK : KP u s v) : ∃ u', f_X10_goTo q s u = some ((), zup q 0 (q (2 + s)), u') ∧ RW u' 6 v ∧ JN u' 36 v ∧ u' 0 10 = v 0 ∧ (∀ r, r ≠ 0 → ¬ (6 ≤ r ∧ r < 14) → r ≠ 36 → r ≠ 37 → u' r = u r) ∧ (∀ j, j ≠ 10 → u' 0 j = u 0 j) := by
  obtain ⟨h1, h2, h3, h4, h5⟩ := hK
  have hw := wr_k s hs
  have R1 := pc_copy (w := 6) (w2 := wr (2 + s)) (q 0) (q (2 + s)) (by rw [hw]; omega) h1
  have o1 : ∀ r, ¬ (6 ≤ r ∧ r < 14) → f_X9_copy 6 (q 0) (wr (2 + s)) (q (2 + s)) u r = u r := fun r hr => pc_cpo _ _ hr
  have J1 : JN (f_X9_copy 6 (q 0) (wr (2 + s)) (q (2 + s)) u) (52 + 14 * s) v := h3.fr (o1 _ (by omega)) (o1 _ (by omega)) rfl (fun _ _ _ => rfl)
  obtain ⟨J2, o2⟩ := pj_copy (j := 36) (j2 := 52 + 14 * s) (v := v) (by omega) J1
  have e4 : f_X2_copy 36 (52 + 14 * s) (f_X9_copy 6 (q 0) (wr (2 + s)) (q (2 + s)) u) (40 + 14 * s) 2 = v 0 := by rw [o2 _ (by omega) (by omega), o1 _ (by omega)]; exact h4
  refine ⟨z_up (f_X2_copy 36 (52 + 14 * s) (f_X9_copy 6 (q 0) (wr (2 + s)) (q (2 + s)) u)) 0 10 (f_X2_copy 36 (52 + 14 * s) (f_X9_copy 6 (q 0) (wr (2 + s)) (q (2 + s)) u) (40 + 14 * s) 2), by rw [f_X10_goTo_e]; rfl, R1.fr (fun r a b => ?_), J2.fr (z_up_ne (by omega)) (z_up_ne (by omega)) rfl (fun _ _ _ => rfl), ?_, fun r a b c d => ?_, fun j hj => ?_⟩
  · rw [z_up_ne (by omega), o2 r (by omega) (by omega)]
  · rw [z_up_eq, upd_eq]; exact e4
  · rw [z_up_ne a, o2 r c d, o1 r b]
  · rw [z_up_eq, upd_ne hj, o2 0 (by omega) (by omega), o1 0 (by omega)]
/-- what is left when the main wheel, journal and texts alone are changed -/
def FrG (u u' : zU) : Prop := (∀ r, r ≠ 0 → ¬ (6 ≤ r ∧ r < 14) → r ≠ 36 → r ≠ 37 → r ≠ 38 → u' r = u r) ∧ (∀ j, j ≠ 10 → u' 0 j = u 0 j)
theorem wr_fg : ∀ k, k < 15 → (¬ (6 ≤ wr k + 10 ∧ wr k + 10 < 14) ∧ wr k + 10 ≠ 36 ∧ wr k + 10 ≠ 37 ∧ wr k + 10 ≠ 38 ∧ wr k + 10 ≠ 0) ∧ ¬ (6 ≤ wr k + 9 ∧ wr k + 9 < 14) ∧ wr k + 9 ≠ 36 ∧ wr k + 9 ≠ 37 ∧ wr k + 9 ≠ 38 ∧ wr k + 9 ≠ 0 := by decide +kernel
theorem FrG.law {u u' : zU} (h : FrG u u') {L : Nat → Nat} (hL : okL L) {j : Nat} (hj : j < 8) : u' (L j) = u (L j) := by
  by_cases e : j = 0
  · subst e
    rcases hL.2.1 with h1 | ⟨k, hk, h1⟩
    · exact h.1 _ (by omega) (by omega) (by omega) (by omega) (by omega)
    · rw [h1]
      obtain ⟨-, a, b, c, d, f⟩ := wr_fg k hk
      exact h.1 _ f a b c d
  · rcases hL.1 j (by omega) hj with h1 | ⟨k, hk, h1⟩
    · exact h.1 _ (by omega) (by omega) (by omega) (by omega) (by omega)
    · rw [h1]
      obtain ⟨⟨a, b, c, d, f⟩, -⟩ := wr_fg k hk
      exact h.1 _ f a b c d
theorem FrG.cl {u u' : zU} (h : FrG u u') {L : Nat → Nat} (hL : okL L) {T : zT} (hC : CL u L T) : CL u' L T := hC.fr (fun j a b => h.law hL (by omega))
theorem FrG.kp {u u' : zU} (h : FrG u u') {s : Nat} (hs : s < 13) {v : Nat → Int32} (hK : KP u s v) : KP u' s v := by
  obtain ⟨h1, h2, h3, h4, h5⟩ := hK
  refine ⟨h1.fr (fun r a b => ?_), h2, h3.fr ?_ ?_ rfl (fun _ _ _ => rfl), ?_, h5⟩
  · rw [wr_k s hs] at a b; exact h.1 r (by omega) (by omega) (by omega) (by omega) (by omega)
  · exact h.1 _ (by omega) (by omega) (by omega) (by omega) (by omega)
  · exact h.1 _ (by omega) (by omega) (by omega) (by omega) (by omega)
  · rw [h.1 _ (by omega) (by omega) (by omega) (by omega) (by omega)]; exact h4
theorem TPe.g {u u' r r' : zU} (h : TPe u r) (hF : FrG u u') (h1 : r' 0 8 = r 0 8) (h2 : r' 5 = r 5) : TPe u' r' := by
  obtain ⟨n, a1, a2, a3, a4⟩ := h
  refine ⟨n, by rw [hF.1 28 (by omega) (by omega) (by omega) (by omega) (by omega), hF.1 29 (by omega) (by omega) (by omega) (by omega) (by omega)]; exact a1, by rw [hF.1 1 (by omega) (by omega) (by omega) (by omega) (by omega)]; exact a2, by rw [h1]; exact a3, fun k hk => ?_⟩
  rw [hF.1 2 (by omega) (by omega) (by omega) (by omega) (by omega), h2]; exact a4 k hk
theorem PIc.g {q q' : zq} {u u' r r' : zU} {T T' : zT} (h : PIc q u r T T') (hF : FrG u u') (h14 : q' 14 = q 14) (h0 : q' 0 = q 0) (h1 : r' 0 3 = r 0 3) (h2 : r' 2 = r 2) : PIc q' u' r' T T' := by
  have e9 : u' 0 9 = u 0 9 := hF.2 9 (by omega)
  rcases h with ⟨a, b⟩ | ⟨a1, a2, a3, a4, a5, a6, a7, a8, a9, a10⟩
  · exact Or.inl ⟨by rw [e9]; exact a, by rw [h1]; exact b⟩
  · exact Or.inr ⟨by rw [e9]; exact a1, by rw [h1]; exact a2, by rw [h2]; exact hF.kp (by decide) a3, by rw [h14]; exact hF.cl a8 a4, by rw [h2]; exact a5, a6, by rw [h14, hF.law a8 (by decide), h2]; exact a7, by rw [h14]; exact a8, by rw [h14, h0]; exact a9, by rw [h14, h0]; exact a10⟩
theorem mx0 : ∀ a, a < 13 → z_max 0 (nI a - 1) = nI (a - 1) := by decide +kernel
theorem s_undo {q : zq} {u r : zU} (h : RR q u r) : ∃ y q' u' r', f_X10_undo q u = some (y, q', u') ∧ f_X11_undo r = some (y, r') ∧ RR q' u' r' := by
  have h0 := h.t 0
  obtain ⟨T, T', hb⟩ := id h0
  obtain ⟨⟨⟨a1, a2, a3, a4⟩, a5, a6, a7, a8⟩, bJ, bX, bT, bW, ⟨a, x, c1, c2, c3, c4, c5, c6⟩, bP⟩ := hb
  have e06 : (z_up r 0 0 0) 0 6 = nI a := c4
  generalize hr0 : z_up r 0 0 0 = r0 at *
  by_cases ha : a = 0
  · subst ha
    refine ⟨false, q, u, r0, ?_, ?_, h0⟩
    · unfold f_X10_undo
      rw [f_X0_latest_e, if_pos (show u 38 2 = 0 from c3), Option.bind_some]
    · rw [f_X11_undo_e, hr0, zl, if_pos (show r0 0 6 = 0 from e06)]
  · have hne : ¬ nI a = 0 := nI_ne0 (by omega) (by omega)
    have hlt : (x + 11) % 12 < 12 := Nat.mod_lt _ (by decide)
    have ei : (x + 12 - a + (a - 1)) % 12 = (x + 11) % 12 := by omega
    obtain ⟨g1, g2, g3, g4⟩ := c6 (a - 1) (by omega)
    rw [ei] at g1 g2
    obtain ⟨u1, f1, R1, J1, X1, o1, o2⟩ := p_goTo (q := q) (by omega) g1
    have eq0 : zup q 0 (q (2 + (x + 11) % 12)) = q := by
      funext i
      unfold zup
      split
      · subst_vars; rw [g2]
      · rfl
    have k38 : u1 38 = u 38 := o1 38 (by omega) (by omega) (by omega) (by omega)
    have F1 : FrG u (z_up (z_up u1 38 1 (nI ((x + 11) % 12))) 38 2 (nI (a - 1))) := ⟨fun r b1 b2 b3 b4 b5 => by rw [z_up_ne b5, z_up_ne b5]; exact o1 r b1 b2 b3 b4, fun j hj => by rw [z_up_ne (by omega), z_up_ne (by omega)]; exact o2 j hj⟩
    have hcl : f_X10_undo q u = some (true, q, z_up (z_up u1 38 1 (nI ((x + 11) % 12))) 38 2 (nI (a - 1))) := by
      unfold f_X10_undo
      rw [f_X0_latest_e, c3, if_neg hne, c5, pc_floorMod _ _ (by decide), Option.bind_some, fm12 x c2, if_pos (pu_in hlt (by decide)), Option.bind_some, nI_clamp (by omega)]
      dsimp only
      rw [if_pos (show (x + 11) % 12 < 13 by omega), f1, z_b3s, f_X0_drop_e, k38, c5, pc_floorMod _ _ (by decide), Option.bind_some, fm12 x c2, zl, zl, zl, z_up_eq, upd_ne (by decide), k38, c3, mx0 a (by omega), Option.bind_some, eq0]
    have hrf : f_X11_undo r = some (true, zst (z_up r0 0 6 (nI (a - 1))) 1 (cpy 305 0 (slc r0 (a - 1)) (r0 1))) := by
      rw [f_X11_undo_e, hr0, zl, e06, if_neg hne, zl, show nI a - 1 = nI (a - 1) by rw [show a = (a - 1) + 1 by omega, nI_pred]; congr 1]
      exact pr_undo26 (z_up r0 0 6 (nI (a - 1))) (a := a - 1) (by omega) rfl
    obtain ⟨K1, K2, K3, K4, K5, K6⟩ := g1
    have hv : ∀ j, j < 305 → cpy 305 0 (slc r0 (a - 1)) (r0 1) j = slc r0 (a - 1) j := fun j hj => cpy_0 hj
    have hv2 : ∀ j, 305 ≤ j → cpy 305 0 (slc r0 (a - 1)) (r0 1) j = r0 1 j := fun j hj => cpy_out (by omega)
    have hV := K2.ex (v' := cpy 305 0 (slc r0 (a - 1)) (r0 1)) (fun k hk => hv k (by omega))
    have R2 : RW (z_up (z_up u1 38 1 (nI ((x + 11) % 12))) 38 2 (nI (a - 1))) 6 (cpy 305 0 (slc r0 (a - 1)) (r0 1)) := (R1.ex (fun k b1 b2 b3 => hv k (by omega))).fr (fun r b1 b2 => by rw [z_up_ne (by omega), z_up_ne (by omega)])
    have J2 : JN (z_up (z_up u1 38 1 (nI ((x + 11) % 12))) 38 2 (nI (a - 1))) 36 (cpy 305 0 (slc r0 (a - 1)) (r0 1)) := J1.fr (by rw [z_up_ne (by omega), z_up_ne (by omega)]) (by rw [z_up_ne (by omega), z_up_ne (by omega)]) (hv 11 (by omega)) (fun k b1 b2 => hv k b2)
    refine ⟨_, _, _, _, hcl, hrf, T, T', ⟨⟨R2, hV.1, F1.cl a7 a3, a4.ex ((hv 1 (by omega)).trans g3) ((hv 2 (by omega)).trans g4) (fun k b1 _ => hv2 k b1)⟩, a5, ?_, a7, K6.ex hV.2.1 (fun r hr => ⟨hv _ (by have := K2.n8; omega), hv _ (by have := K2.n8; omega)⟩)⟩, J2, ⟨?_, ?_⟩, bT.g F1 rfl rfl, ?_, ?_, bP.g F1 rfl rfl rfl rfl⟩
    · rw [F1.law a7 (by decide), a6]; exact ((hv 1 (by omega)).trans g3).symm
    · rw [z_up_ne (by omega), z_up_ne (by omega), X1]; exact (hv 0 (by omega)).symm
    · show sm (cpy 305 0 (slc r0 (a - 1)) (r0 1) 0) 12
      rw [hv 0 (by omega)]; exact K5
    · rw [F1.2 11 (by omega)]; exact bW
    · refine ⟨a - 1, (x + 11) % 12, by omega, hlt, rfl, rfl, rfl, fun b hbb => ?_⟩
      obtain ⟨m1, m2, m3, m4⟩ := c6 b (by omega)
      have ej : ((x + 11) % 12 + 12 - (a - 1) + b) % 12 = (x + 12 - a + b) % 12 := by omega
      have hl2 : (x + 12 - a + b) % 12 < 12 := Nat.mod_lt _ (by decide)
      rw [ej]
      exact ⟨F1.kp (by omega) m1, m2, m3.trans ((hv 1 (by omega)).trans g3).symm, m4.trans ((hv 2 (by omega)).trans g4).symm⟩
theorem s_image {q : zq} {u r : zU} (h : RR q u r) : ∃ q' u' r', f_X10_image q u = some ((), q', u') ∧ f_X11_image r = some r' ∧ RR q' u' r' := by
  have h0 := h.t 0
  obtain ⟨T, T', hb⟩ := id h0
  obtain ⟨⟨⟨a1, a2, a3, a4⟩, a5, a6, a7, a8⟩, bJ, bX, bT, bW, ⟨a, x, c1, c2, c3, c4, c5, c6⟩, bP⟩ := hb
  generalize hr0 : z_up r 0 0 0 = r0 at *
  obtain ⟨u1, e1, K1, F1, k38⟩ := p_hold (q := q) (k := 12) (by omega) a1 a2 bJ bX.1 bX.2 a8
  have hq0 : zup q 14 (q 0) 0 = q 0 := zup_o (by omega)
  have hq14 : zup q 14 (q 0) 14 = q 0 := zup_e
  have hv : ∀ j, j < 705 → cpy 705 0 (r0 1) (r0 2) j = r0 1 j := fun j hj => cpy_0 hj
  have hz : ∀ x, x ≠ 0 → z_up u1 0 9 1 x = u1 x := fun x hx => z_up_ne hx
  have lawr : ∀ {j}, j < 8 → z_up u1 0 9 1 (q 0 j) = u (q 0 j) := fun {j} hj => by
    rw [hz _ (by have := a7.hi hj; omega)]; exact F1.law (by decide) a7 hj
  refine ⟨zup q 14 (q 0), z_up u1 0 9 1, z_up (zst r0 2 (cpy 705 0 (r0 1) (r0 2))) 0 3 1, ?_, ?_, T, T, ⟨⟨(F1.main a1).fr (fun r b1 b2 => hz r (by omega)), a2, ?_, a4⟩, a5, ?_, ?_, a8⟩, bJ.fr ((hz 36 (by omega)).trans (F1.lo (by omega))) ((hz 37 (by omega)).trans (F1.lo (by omega))) rfl (fun _ _ _ => rfl), ⟨?_, bX.2⟩, ?_, ?_, ?_, ?_⟩
  · rw [f_X10_image_e, e1, z_b3s, zl]
  · rw [f_X11_image_e, hr0, zl]; exact pr_image7 r0
  · rw [hq0]; exact a3.fr (fun j b1 b2 => lawr (by omega))
  · rw [hq0, lawr (by decide)]; exact a6
  · rw [hq0]; exact a7
  · rw [z_up_eq, upd_ne (by decide), F1.lo (by omega)]; exact bX.1
  · obtain ⟨n, t1, t2, t3, t4⟩ := bT
    exact ⟨n, by rw [hz 28 (by omega), hz 29 (by omega), F1.lo (r := 28) (by omega), F1.lo (r := 29) (by omega)]; exact t1, by rw [hz 1 (by omega), F1.lo (by omega)]; exact t2, t3, fun k hk => by rw [hz 2 (by omega), F1.lo (by omega)]; exact t4 k hk⟩
  · rw [z_up_eq, upd_ne (by decide), F1.lo (by omega)]; exact bW
  · refine ⟨a, x, c1, c2, by rw [hz 38 (by omega), k38]; exact c3, c4, by rw [hz 38 (by omega), k38]; exact c5, fun b hbb => ?_⟩
    obtain ⟨m1, m2, m3, m4⟩ := c6 b hbb
    have hl2 : (x + 12 - a + b) % 12 < 12 := Nat.mod_lt _ (by decide)
    refine ⟨?_, ?_, m3, m4⟩
    · have := F1.kp (by decide) (s' := (x + 12 - a + b) % 12) (by omega) (by omega) m1
      obtain ⟨n1, n2, n3, n4, n5⟩ := this
      refine ⟨n1.fr (fun r b1 b2 => ?_), n2, n3.fr (hz _ (by omega)) (hz _ (by omega)) rfl (fun _ _ _ => rfl), by rw [hz _ (by omega)]; exact n4, n5⟩
      rw [wr_k _ (by omega)] at b1 b2
      exact hz r (by omega)
    · rw [zup_o (by omega), hq0]; exact m2
  · refine Or.inr ⟨rfl, rfl, ?_, ?_, ?_, a5, ?_, ?_, ?_, fun _ => rfl⟩
    · obtain ⟨n1, n2, n3, n4, n5⟩ := K1
      have K2 : KP (z_up u1 0 9 1) 12 (r0 1) := ⟨n1.fr (fun r b1 b2 => by rw [wr_k 12 (by decide)] at b1 b2; exact hz r (by omega)), n2, n3.fr (hz _ (by omega)) (hz _ (by omega)) rfl (fun _ _ _ => rfl), by rw [hz _ (by omega)]; exact n4, n5⟩
      exact K2.ex (fun j hj => hv j (by omega))
    · rw [hq14]; exact a3.fr (fun j b1 b2 => lawr (by omega))
    · exact a4.ex (hv 1 (by omega)) (hv 2 (by omega)) (fun k _ b2 => hv k b2)
    · rw [hq14, lawr (by decide), a6]; exact (hv 1 (by omega)).symm
    · rw [hq14]; exact a7
    · rw [hq14, hq0]; exact Or.inl rfl
theorem s_back {q : zq} {u r : zU} (h : RR q u r) : ∃ y q' u' r', f_X10_back q u = some (y, q', u') ∧ f_X11_back r = some (y, r') ∧ RR q' u' r' := by
  have h0 := h.t 0
  obtain ⟨T, T', hb⟩ := id h0
  obtain ⟨⟨⟨a1, a2, a3, a4⟩, a5, a6, a7, a8⟩, bJ, bX, bT, bW, bA, bP⟩ := hb
  generalize hr0 : z_up r 0 0 0 = r0 at *
  rcases bP with ⟨p1, p2⟩ | ⟨p1, p2, p3, p4, p5, p6, p7, p8, p9, p10⟩
  · refine ⟨false, q, u, r0, ?_, ?_, h0⟩
    · rw [f_X10_back_e, if_pos p1]
    · rw [f_X11_back_e, hr0, zl, if_pos p2]
  · obtain ⟨u1, f1, R1, J1, X1, o1, o2⟩ := p_goTo (q := q) (s := 12) (by omega) p3
    have F1 : FrG u (z_up u1 38 2 0) := ⟨fun r b1 b2 b3 b4 b5 => by rw [z_up_ne b5]; exact o1 r b1 b2 b3 b4, fun j hj => by rw [z_up_ne (by omega)]; exact o2 j hj⟩
    have hq0 : zup q 0 (q 14) 0 = q 14 := zup_e
    have hq14 : zup q 0 (q 14) 14 = q 14 := zup_o (by omega)
    have hcl : f_X10_back q u = some (true, zup q 0 (q 14), z_up u1 38 2 0) := by
      rw [f_X10_back_e, if_neg (by rw [p1]; decide), f1, z_b3s, zl, f_X0_forget_e, zl]
    have hrf : f_X11_back r = some (true, z_up (zst r0 1 (cpy 705 0 (r0 2) (r0 1))) 0 6 0) := by
      rw [f_X11_back_e, hr0, zl, if_neg (by rw [p2]; decide)]; exact pr_back16 r0
    obtain ⟨K1, K2, K3, K4, K5, K6⟩ := id p3
    have hv : ∀ j, j < 705 → cpy 705 0 (r0 2) (r0 1) j = r0 2 j := fun j hj => cpy_0 hj
    have hV := K2.ex (v' := cpy 705 0 (r0 2) (r0 1)) (fun k hk => hv k (by omega))
    refine ⟨_, _, _, _, hcl, hrf, T', T', ⟨⟨(R1.ex (fun k b1 b2 b3 => hv k (by omega))).fr (fun r b1 b2 => z_up_ne (by omega)), hV.1, ?_, p5.ex (hv 1 (by omega)) (hv 2 (by omega)) (fun k _ b2 => hv k b2)⟩, p6, ?_, ?_, K6.ex hV.2.1 (fun r hr => ⟨hv _ (by have := K2.n8; omega), hv _ (by have := K2.n8; omega)⟩)⟩, J1.fr (z_up_ne (by omega)) (z_up_ne (by omega)) (hv 11 (by omega)) (fun k b1 b2 => hv k (by omega)), ⟨?_, ?_⟩, bT.g F1 rfl rfl, ?_, ⟨0, ?_⟩, Or.inr ⟨?_, p2, F1.kp (by decide) p3, ?_, p5, p6, ?_, ?_, ?_, fun _ => rfl⟩⟩
    · rw [hq0]; exact F1.cl p8 p4
    · rw [hq0, F1.law p8 (by decide), p7]; exact (hv 1 (by omega)).symm
    · rw [hq0]; exact p8
    · rw [z_up_ne (by omega), X1]; exact (hv 0 (by omega)).symm
    · show sm (cpy 705 0 (r0 2) (r0 1) 0) 12
      rw [hv 0 (by omega)]; exact K5
    · rw [F1.2 11 (by omega)]; exact bW
    · obtain ⟨a, x, c1, c2, c3, c4, c5, c6⟩ := bA
      refine ⟨x, by omega, c2, rfl, rfl, ?_, fun b hbb => by omega⟩
      rw [z_up_eq, upd_ne (by decide), o1 38 (by omega) (by omega) (by omega) (by omega)]; exact c5
    · rw [F1.2 9 (by omega)]; exact p1
    · rw [hq14]; exact F1.cl p8 p4
    · rw [hq14, F1.law p8 (by decide)]; exact p7
    · rw [hq14]; exact p8
    · rw [hq14, hq0]; exact Or.inl rfl
