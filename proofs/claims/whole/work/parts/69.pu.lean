/-! PURE, 20: to remember, to undo, image and back -/
def FrK (s : Nat) (u u' : zU) : Prop := ∀ r, r ≠ 38 → r ≠ 40 + 14 * s → ¬ (41 + 14 * s ≤ r ∧ r < 49 + 14 * s) → r ≠ 52 + 14 * s → r ≠ 53 + 14 * s → u' r = u r
theorem wr_fka : ∀ k, k < 15 → ∀ s, s < 13 → wr k + 10 ≠ 38 ∧ wr k + 10 ≠ 40 + 14 * s ∧ ¬ (41 + 14 * s ≤ wr k + 10 ∧ wr k + 10 < 49 + 14 * s) ∧ wr k + 10 ≠ 52 + 14 * s ∧ wr k + 10 ≠ 53 + 14 * s := by decide +kernel
theorem wr_fkb : ∀ k, k < 15 → ∀ s, s < 13 → wr k + 9 ≠ 38 ∧ wr k + 9 ≠ 40 + 14 * s ∧ ¬ (41 + 14 * s ≤ wr k + 9 ∧ wr k + 9 < 49 + 14 * s) ∧ wr k + 9 ≠ 52 + 14 * s ∧ wr k + 9 ≠ 53 + 14 * s := by decide +kernel
theorem FrK.law {s : Nat} {u u' : zU} (h : FrK s u u') (hs : s < 13) {L : Nat → Nat} (hL : okL L) {j : Nat} (hj : j < 8) : u' (L j) = u (L j) := by
  by_cases e : j = 0
  · subst e
    rcases hL.2.1 with h1 | ⟨k, hk, h1⟩
    · exact h _ (by omega) (by omega) (by omega) (by omega) (by omega)
    · rw [h1]
      obtain ⟨a, b, c, d, f⟩ := wr_fkb k hk s hs
      exact h _ a b c d f
  · rcases hL.1 j (by omega) hj with h1 | ⟨k, hk, h1⟩
    · exact h _ (by omega) (by omega) (by omega) (by omega) (by omega)
    · rw [h1]
      obtain ⟨a, b, c, d, f⟩ := wr_fka k hk s hs
      exact h _ a b c d f
theorem FrK.lo {s : Nat} {u u' : zU} (h : FrK s u u') {r : Nat} (hr : r < 38) : u' r = u r := h r (by omega) (by omega) (by omega) (by omega) (by omega)
theorem FrK.kp {s : Nat} {u u' : zU} (h : FrK s u u') {s' : Nat} (hs : s < 13) (hs' : s' < 13) (hne : s' ≠ s) {v : Nat → Int32} (hK : KP u s' v) : KP u' s' v := by
  obtain ⟨h1, h2, h3, h4, h5⟩ := hK
  refine ⟨h1.fr (fun r a b => ?_), h2, h3.fr ?_ ?_ rfl (fun _ _ _ => rfl), ?_, h5⟩
  · rw [wr_k s' hs'] at a b; exact h r (by omega) (by omega) (by omega) (by omega) (by omega)
  · exact h _ (by omega) (by omega) (by omega) (by omega) (by omega)
  · exact h _ (by omega) (by omega) (by omega) (by omega) (by omega)
  · rw [h _ (by omega) (by omega) (by omega) (by omega) (by omega)]; exact h4
theorem KP.ex {u : zU} {s : Nat} {v v' : Nat → Int32} (h : KP u s v) (he : ∀ j, j < 305 → v' j = v j) : KP u s v' := by
  obtain ⟨h1, h2, h3, h4, h5, h6⟩ := h
  have hV := h2.ex (v' := v') (fun k hk => he k (by omega))
  exact ⟨h1.ex (fun k a b c => he k (by omega)), hV.1, h3.fr rfl rfl (he 11 (by decide)) (fun k a b => he k b), by rw [he 0 (by decide)]; exact h4, by rw [he 0 (by decide)]; exact h5, h6.ex hV.2.1 (fun r hr => ⟨he _ (by have := h2.n8; omega), he _ (by have := h2.n8; omega)⟩)⟩
theorem p_hold {q : zq} {u : zU} {v : Nat → Int32} {k : Nat} (hk : k < 13) (hR : RW u 6 v) (hV : IV v) (hJ : JN u 36 v) (hX : u 0 10 = v 0) (h12 : sm (v 0) 12) (hP : CAP v) : ∃ u', f_X3_hold q k (u 0 10) u = some ((), zup q (2 + k) (q 0), u') ∧ KP u' k v ∧ FrK k u u' ∧ u' 38 = u 38 := by
  have hw := wr_k k hk
  have R1 := pc_copy (w := wr (2 + k)) (w2 := 6) (q (2 + k)) (q 0) (by rw [hw]; omega) hR
  have o1 : ∀ r, ¬ (41 + 14 * k ≤ r ∧ r < 49 + 14 * k) → f_X9_copy (wr (2 + k)) (q (2 + k)) 6 (q 0) u r = u r := fun r hr => pc_cpo _ _ (by rw [hw]; omega)
  have J1 : JN (f_X9_copy (wr (2 + k)) (q (2 + k)) 6 (q 0) u) 36 v := hJ.fr (o1 36 (by omega)) (o1 37 (by omega)) rfl (fun _ _ _ => rfl)
  obtain ⟨J2, o2⟩ := pj_copy (j := 52 + 14 * k) (j2 := 36) (v := v) (by omega) J1
  refine ⟨z_up (f_X2_copy (52 + 14 * k) 36 (f_X9_copy (wr (2 + k)) (q (2 + k)) 6 (q 0) u)) (40 + 14 * k) 2 (u 0 10), by rw [f_X3_hold_e]; rfl, ?_, ?_, ?_⟩
  · refine ⟨R1.fr (fun r a b => ?_), hV, J2.fr (z_up_ne (by omega)) (z_up_ne (by omega)) rfl (fun _ _ _ => rfl), ?_, h12, hP⟩
    · rw [hw] at a b
      rw [z_up_ne (by omega), o2 r (by omega) (by omega)]
    · rw [z_up_eq, upd_eq]; exact hX
  · intro r a b c d e
    rw [z_up_ne b, o2 r d (by omega), o1 r c]
  · rw [z_up_ne (by omega), o2 38 (by omega) (by omega), o1 38 (by omega)]
theorem zup_o {q : zq} {i j : Nat} {L : Nat → Nat} (h : j ≠ i) : zup q i L j = q j := if_neg h
theorem zup_e {q : zq} {i : Nat} {L : Nat → Nat} : zup q i L i = L := if_pos rfl
theorem FrK.cl {s : Nat} {u u' : zU} (h : FrK s u u') (hs : s < 13) {L : Nat → Nat} (hL : okL L) {T : zT} (hC : CL u L T) : CL u' L T := hC.fr (fun j a b => h.law hs hL (by omega))
theorem FrK.main {s : Nat} {u u' : zU} (h : FrK s u u') {v : Nat → Int32} (hR : RW u 6 v) : RW u' 6 v := hR.fr (fun r a b => h.lo (by omega))
theorem TPe.k {s : Nat} {u u' r r' : zU} (h : TPe u r) (hF : FrK s u u') (h1 : r' 0 8 = r 0 8) (h2 : r' 5 = r 5) : TPe u' r' := by
  obtain ⟨n, a1, a2, a3, a4⟩ := h
  refine ⟨n, by rw [hF.lo (r := 28) (by omega), hF.lo (r := 29) (by omega)]; exact a1, by rw [hF.lo (by omega)]; exact a2, by rw [h1]; exact a3, fun k hk => ?_⟩
  rw [hF.lo (by omega), h2]; exact a4 k hk
theorem PIc.k {q q' : zq} {u u' r r' : zU} {T T' : zT} (h : PIc q u r T T') {s : Nat} (hs : s < 12) (hF : FrK s u u') (h14 : q' 14 = q 14) (h0 : q' 0 = q 0) (h1 : r' 0 3 = r 0 3) (h2 : r' 2 = r 2) : PIc q' u' r' T T' := by
  have e0 : u' 0 = u 0 := hF.lo (by omega)
  rcases h with ⟨a, b⟩ | ⟨a1, a2, a3, a4, a5, a6, a7, a8, a9, a10⟩
  · exact Or.inl ⟨by rw [e0]; exact a, by rw [h1]; exact b⟩
  · refine Or.inr ⟨by rw [e0]; exact a1, by rw [h1]; exact a2, by rw [h2]; exact hF.kp (by omega) (by decide) (by omega) a3, by rw [h14]; exact hF.cl (by omega) a8 a4, by rw [h2]; exact a5, a6, by rw [h14, hF.law (by omega) a8 (by decide), h2]; exact a7, by rw [h14]; exact a8, by rw [h14, h0]; exact a9, by rw [h14, h0]; exact a10⟩
theorem rem0 : ∀ x, x < 12 → z_rem (nI x + 1) 12 = nI ((x + 1) % 12) := by decide +kernel
theorem s_rem {q : zq} {u r : zU} (h : RR q u r) : ∃ q' u' r', f_X10_rememberAct q u = some ((), q', u') ∧ f_X11_remembers r = some r' ∧ RR q' u' r' ∧ q' 0 = q 0 ∧ r' 1 = r 1 ∧ r' 0 0 = r 0 0 := by
  obtain ⟨T, T', hb⟩ := h
  obtain ⟨⟨⟨a1, a2, a3, a4⟩, a5, a6, a7, a8⟩, bJ, bX, bT, bW, ⟨a, x, c1, c2, c3, c4, c5, c6⟩, bP⟩ := hb
  obtain ⟨u1, e1, K1, F1, k38⟩ := p_hold (q := q) (k := x) (by omega) a1 a2 bJ bX.1 bX.2 a8
  have hmin : z_min 12 (nI a + 1) = nI (min 12 (a + 1)) := by
    have : ∀ a, a < 13 → z_min 12 (nI a + 1) = nI (min 12 (a + 1)) := by decide +kernel
    exact this a (by omega)
  have F2 : FrK x u (z_up (z_up u1 38 1 (nI ((x + 1) % 12))) 38 2 (nI (min 12 (a + 1)))) := fun r h1 h2 h3 h4 h5 => by rw [z_up_ne h1, z_up_ne h1]; exact F1 r h1 h2 h3 h4 h5
  have K2 : KP (z_up (z_up u1 38 1 (nI ((x + 1) % 12))) 38 2 (nI (min 12 (a + 1)))) x (r 1) := by
    obtain ⟨h1, h2, h3, h4, h5⟩ := K1
    have hw := wr_k x (by omega)
    refine ⟨h1.fr (fun r a b => ?_), h2, h3.fr ?_ ?_ rfl (fun _ _ _ => rfl), ?_, h5⟩
    · rw [hw] at a b; rw [z_up_ne (by omega), z_up_ne (by omega)]
    · rw [z_up_ne (by omega), z_up_ne (by omega)]
    · rw [z_up_ne (by omega), z_up_ne (by omega)]
    · rw [z_up_ne (by omega), z_up_ne (by omega)]; exact h4
  have hq0 : zup q (2 + x) (q 0) 0 = q 0 := zup_o (by omega)
  have hq14 : zup q (2 + x) (q 0) 14 = q 14 := zup_o (by omega)
  -- what the reference does
  have hr : ∃ d, f_X11_remembers r = some (z_up (zst r 4 d) 0 6 (nI (min 12 (a + 1)))) ∧ (∀ b, b + 1 < min 12 (a + 1) → ∀ j, j < 305 → d (305 * b + j) = r 4 (305 * (if a = 12 then b + 1 else b) + j)) ∧ ∀ j, j < 305 → d (305 * (min 12 (a + 1) - 1) + j) = r 1 j := by
    by_cases ha : a = 12
    · subst ha
      refine ⟨cpy 305 (305 * 11) (r 1) (shN 3355 (r 4)), by rw [f_X11_remembers_e, if_pos (show r 0 6 = (12 : Int32) from c4), pr_rem11 r c4]; rfl, fun b hb j hj => ?_, fun j hj => ?_⟩
      · rw [cpy_out (by omega), if_pos rfl]
        unfold shN
        rw [if_pos (by omega)]
        congr 1
        omega
      · exact cpy_in hj
    · refine ⟨cpy 305 (305 * a) (r 1) (r 4), by rw [f_X11_remembers_e, if_neg (by rw [c4]; exact fun e => ha ((nI_eq (b := 12) (by omega) (by decide)).mp e)), pr_rem52 r (by omega) c4, show min 12 (a + 1) = a + 1 by omega], fun b hb j hj => ?_, fun j hj => ?_⟩
      · rw [cpy_out (by omega), if_neg ha]
      · rw [show min 12 (a + 1) - 1 = a by omega]; exact cpy_in hj
  obtain ⟨d, er, d1, d2⟩ := hr
  refine ⟨zup q (2 + x) (q 0), z_up (z_up u1 38 1 (nI ((x + 1) % 12))) 38 2 (nI (min 12 (a + 1))), _, ?_, er, ⟨T, T', ⟨⟨F2.main a1, a2, ?_, a4⟩, a5, ?_, ?_, a8⟩, bJ.fr (F2.lo (by omega)) (F2.lo (by omega)) rfl (fun _ _ _ => rfl), ⟨by rw [F2.lo (by omega)]; exact bX.1, bX.2⟩, bT.k F2 rfl rfl, by rw [F2.lo (by omega)]; exact bW, ?_, bP.k c2 F2 hq14 hq0 rfl rfl⟩, hq0, rfl, rfl⟩
  · rw [f_X10_rememberAct_e, f_X0_remember_e, zl, c5, if_pos (pu_in c2 (by decide)), nI_clamp (by omega), e1]
    simp only [z_b3, Option.bind_some, z_let, z_up_eq, upd_ne (show (2 : Nat) ≠ 1 by decide)]
    rw [k38, c5, c3, rem0 x c2, hmin]
  · rw [hq0]; exact F2.cl (by omega) a7 a3
  · rw [hq0, F2.law (by omega) a7 (by decide)]; exact a6
  · rw [hq0]; exact a7
  · refine ⟨min 12 (a + 1), (x + 1) % 12, by omega, Nat.mod_lt _ (by decide), rfl, rfl, rfl, fun b hbb => ?_⟩
    by_cases hlast : b + 1 = min 12 (a + 1)
    · have ei : ((x + 1) % 12 + 12 - min 12 (a + 1) + b) % 12 = x := by omega
      have hs : ∀ j, j < 305 → slc (z_up (zst r 4 d) 0 6 (nI (min 12 (a + 1)))) b j = r 1 j := fun j hj => by
        show d (305 * b + j) = _
        rw [show b = min 12 (a + 1) - 1 by omega]; exact d2 j hj
      rw [ei]
      exact ⟨K2.ex hs, by rw [zup_e, hq0], hs 1 (by decide), hs 2 (by decide)⟩
    · have hs : ∀ j, j < 305 → slc (z_up (zst r 4 d) 0 6 (nI (min 12 (a + 1)))) b j = slc r (if a = 12 then b + 1 else b) j := fun j hj => d1 b (by omega) j hj
      have hba : (if a = 12 then b + 1 else b) < a := by split <;> omega
      obtain ⟨g1, g2, g3, g4⟩ := c6 _ hba
      have ei : ((x + 1) % 12 + 12 - min 12 (a + 1) + b) % 12 = (x + 12 - a + (if a = 12 then b + 1 else b)) % 12 := by split <;> omega
      have hne : (x + 12 - a + (if a = 12 then b + 1 else b)) % 12 ≠ x := by split <;> omega
      have hlt : (x + 12 - a + (if a = 12 then b + 1 else b)) % 12 < 12 := Nat.mod_lt _ (by decide)
      rw [ei]
      refine ⟨(F2.kp (by omega) (by omega) hne g1).ex hs, ?_, (hs 1 (by decide)).trans g3, (hs 2 (by decide)).trans g4⟩
      rw [zup_o (by omega), hq0]; exact g2
