/-! PURE, 69: law, the call -/
theorem Fac_of {u : zU} {F : Nat → Int32} (h : FO u (some F)) : ∀ j, j < 9 → F j = Fac u j := by
  obtain ⟨⟨-, h7, h8⟩, h6, h15, h16⟩ := h
  intro j hj
  unfold Fac
  by_cases e : j < 7
  · rw [if_pos e]; exact (h6 j e).symm
  · rw [if_neg e]
    by_cases e7 : j = 7
    · rw [if_pos e7, e7, h15]
      rcases h7 with q | q <;> rw [q] <;> decide
    · rw [if_neg e7, show j = 8 by omega, h16]
      rcases h8 with q | q <;> rw [q] <;> decide
theorem ov_of {u : zU} {o : Option (Nat → Int32)} (h : FO u o) : OE o (ov u) := by
  cases o with
  | none =>
    have h : u 0 17 = 1 := h
    unfold ov
    rw [if_neg (by rw [h]; decide)]
    exact trivial
  | some F =>
    unfold ov
    rw [if_pos h.1.1]
    exact Fac_of h
theorem s_law {q : zq} {u r : zU} (h : RR q u r) : (∃ u' r', (∀ n, f_X10_law n q u = some (.inl eIA, q, u')) ∧ f_X11_law r = some (0, r') ∧ r' 0 0 = 1 ∧ RR q u' r') ∨ (∃ x r', f_X11_law r = some (x, r') ∧ r' 0 0 = 0 ∧ ∀ n, 222 ≤ n → ∃ q' u', f_X10_law n q u = some (.inr x, q', u') ∧ ((∀ j, j < 8 → q 14 j < n) → RR q' u' r')) := by
  obtain ⟨T, T', hb⟩ := h
  obtain ⟨n, ⟨hn, c28, c29⟩, t1, t2, t3⟩ := hb.2.2.2.1
  have hV := hb.1.1.2.1
  have huc : ∃ uc, uc = z_up (z_up u 29 8 0) 29 9 0 := ⟨_, rfl⟩
  obtain ⟨uc, ec⟩ := huc
  have o1 : ∀ x, x ≠ 29 → uc x = u x := fun x hx => by rw [ec, z_up_ne hx, z_up_ne hx]
  have o29 : ∀ j, j ≠ 8 → j ≠ 9 → uc 29 j = u 29 j := fun j a b => by rw [ec, zupo (by omega), zupo (by omega)]
  have c8 : uc 29 8 = nI 0 := by rw [ec]; rfl
  have c9 : uc 29 9 = nI 0 := by rw [ec]; rfl
  obtain ⟨us, s1, s2, s3, s4, s5⟩ := JC.split (u := uc) (t := r 5) hn (by rw [o1 1 (by decide)]; exact t1) (fun k hk => by rw [o1 2 (by decide)]; exact (t3 k hk).1)
  have hs29 : us 29 = uc 29 := s2 29 (by decide) (by decide) (by decide)
  have S8 : us 29 8 = nI 0 := by rw [hs29]; exact c8
  have S9 : us 29 9 = nI 0 := by rw [hs29]; exact c9
  have S1 : us 29 1 = 12 := by rw [hs29, o29 1 (by decide) (by decide)]; exact c29
  have hv0 : ∃ v0, v0 = z_up (z_up (z_up (z_up (z_up (z_up r 0 12 (-1)) 0 9 (-1)) 0 10 (r 0 8)) 0 8 0) 0 11 0) 0 13 0 := ⟨_, rfl⟩
  obtain ⟨v0, ev0⟩ := hv0
  have hbg : f_X11_begins r = v0 := by rw [ev0, f_X11_begins_e, zl, zl, zl, zl, zl, zl]; rfl
  have vr : ∀ x, x ≠ 0 → v0 x = r x := fun x hx => by rw [ev0, z_up_ne hx, z_up_ne hx, z_up_ne hx, z_up_ne hx, z_up_ne hx, z_up_ne hx]
  have v03 : v0 0 3 = r 0 3 := by rw [ev0]; rfl
  have v06 : v0 0 6 = r 0 6 := by rw [ev0]; rfl
  have v08 : v0 0 8 = 0 := by rw [ev0]; rfl
  have v09 : v0 0 9 = -1 := by rw [ev0]; rfl
  have v010 : v0 0 10 = nI n := by rw [ev0]; exact t2
  have v011 : v0 0 11 = nI 0 := by rw [ev0]; rfl
  have v012 : v0 0 12 = -1 := by rw [ev0]; rfl
  have v013 : v0 0 13 = nI 0 := by rw [ev0]; rfl
  clear ev0
  obtain ⟨u', x, v', e1, e2, hE⟩ := j_lread s3 s4 s5 S8 S9 S1 ⟨hn, v010, Or.inl ⟨v09, fun k hk => by rw [vr 5 (by decide)]⟩⟩ v011 v012 v013
  have hcl : ∀ n, f_X10_law n q u = z_bx (f_X10_useText q u') (fun _ q3 u3 => if (¬ u3 29 8 < 0 ∧ (u3 29 8).toNatClampNeg ≤ 12) ∧ ¬ u3 29 9 < 0 ∧ (u3 29 9).toNatClampNeg ≤ 400 then
    (let u5 := f_X0_forget (zup q3 0 (zLn n (u3 29 8).toNatClampNeg (u3 29 9).toNatClampNeg)) (uLw (zst u3 n zO0) n (n + 1))
     some (.inr (u5 n 0), zup q3 0 (zLn n (u3 29 8).toNatClampNeg (u3 29 9).toNatClampNeg), u5)) else none) := fun n => by
    unfold f_X10_law
    rw [f_X5_clear_e, zl, zl, ← ec, f_X6_readL_e, s1, Option.bind_some, e1, Option.bind_some]
  have hrl : f_X11_law r = if (v' 0 12) = (-1 : Int32) then (z_let (z_up v' 0 0 (0 : Int32)) (fun u4 => if (u4 0 0) ≤ 0 then (z_let (z_up u4 1 1 x) (fun u5 => z_let (z_up u5 1 2 (u5 0 10)) (fun u6 => f_X11_law_55 5000 x (0 : Int32) u6))) else (some ((0 : Int32), u4)))) else (z_let (z_up v' 0 0 (1 : Int32)) (fun u10 => if (u10 0 0) ≤ 0 then (z_let (z_up u10 1 1 x) (fun u11 => z_let (z_up u11 1 2 (u11 0 10)) (fun u12 => f_X11_law_55 5000 x (0 : Int32) u12))) else (some ((0 : Int32), u10)))) := by
    rw [f_X11_law_e, hbg, zl, e2, z_b2s]
  have hfr : KM us u' ∧ KN v0 v' := by
    rcases hE with ⟨-, -, m, i, -, -, E, k, -, -, -, -, a, b⟩ | ⟨w, -, -, -, a, b⟩
    · exact ⟨a, b⟩
    · exact ⟨a, b⟩
  obtain ⟨km, kn⟩ := hfr
  have hfu : ∀ x, x ≠ 3 → x ≠ 4 → x ≠ 5 → x ≠ 29 → ¬ (30 ≤ x ∧ x ≤ 35) → u' x = u x := fun x a b c d e => by
    rw [show u' x = us x from funext fun j => km x j (by omega) (by omega) e, s2 x a b c, o1 x d]
  have h291 : u' 29 1 = 12 := by rw [km 29 1 (by omega) (by omega) (by omega)]; exact S1
  have hvr : ∀ x, x ≠ 0 → v' x = r x := fun x hx => by
    rw [show v' x = v0 x from funext fun j => kn x j (by omega), vr x hx]
  have hv0j : ∀ j, j ≠ 11 → j ≠ 12 → j ≠ 18 → j ≠ 19 → v' 0 j = v0 0 j := fun j a b c d => kn 0 j (by omega)
  have hrr : ∀ (z : Int32) (w c : zU), z = w 0 12 → c = z_up (z_up u' 1 1 0) 0 11 z → (∀ j, j ≠ 0 → j ≠ 11 → j ≠ 12 → j ≠ 18 → j ≠ 19 → w 0 j = v0 0 j) → (∀ x, x ≠ 0 → w x = r x) → RRb q c w T T' := fun z w c hz hc w0 w1 => by
    refine hb.rd (fun x a b d => ?_) ?_ ?_ ?_ ?_ (w1 1 (by decide)) (w1 2 (by decide)) (w1 4 (by decide)) ?_ ?_
    · rw [hc, z_up_ne (by omega), z_up_ne (by omega)]; exact hfu x (by omega) (by omega) (by omega) (by omega) (by omega)
    · rw [hc, z_up_eq, upd_ne (by decide), z_up_ne (by decide), hfu 0 (by decide) (by decide) (by decide) (by decide) (by omega)]
    · rw [hc, z_up_eq, upd_ne (by decide), z_up_ne (by decide), hfu 0 (by decide) (by decide) (by decide) (by decide) (by omega)]
    · rw [hc, z_up_eq, upd_eq]; exact hz
    · refine ⟨0, ⟨Nat.zero_le _, ?_, ?_⟩, ?_, ?_, fun k hk => ?_⟩
      · rw [hc, z_up_ne (by decide), z_up_ne (by decide), hfu 28 (by decide) (by decide) (by decide) (by decide) (by omega)]; exact c28
      · rw [hc, z_up_ne (by decide), z_up_ne (by decide)]; exact h291
      · rw [hc]; rfl
      · rw [w0 8 (by decide) (by decide) (by decide) (by decide) (by decide), v08]; rfl
      · rw [hc, z_up_ne (by decide), z_up_ne (by decide), hfu 2 (by decide) (by decide) (by decide) (by decide) (by omega), w1 5 (by decide)]; exact t3 k hk
    · rw [w0 3 (by decide) (by decide) (by decide) (by decide) (by decide), v03]
    · rw [w0 6 (by decide) (by decide) (by decide) (by decide) (by decide), v06]
  have hut : ∀ z : Int32, u' 3 5 = z → f_X10_useText q u' = if z = (-1 : Int32) then (some (.inr (), q, z_up (z_up u' 1 1 0) 0 11 z)) else (some (.inl eIA, q, z_up (z_up u' 1 1 0) 0 11 z)) := fun z hz => by
    rw [f_X10_useText_e, zl, show (z_up u' 1 1 0) 3 5 = z from hz, zl, show (z_up (z_up u' 1 1 0) 0 11 z) 0 11 = z from rfl]
  rcases hE with ⟨g1, g2, m, i, hm, gx, E, k, ⟨a1, a2, a3, a4, a5⟩, gL, gs, -, -, -⟩ | ⟨w, hw, g1, g2, -, -⟩
  · refine Or.inr ?_
    have hA := hrr (-1) (z_up v' 0 0 0) (z_up (z_up u' 1 1 0) 0 11 (-1)) g2.symm rfl (fun j a b c d e => by rw [z_up_eq, upd_ne a]; exact hv0j j b c d e) (fun x hx => by rw [z_up_ne hx]; exact hvr x hx)
    have h010 : v' 0 10 = nI n := by rw [hv0j 10 (by decide) (by decide) (by decide) (by decide)]; exact v010
    have hw6 : ∃ w6, w6 = z_up (z_up (z_up v' 0 0 0) 1 1 x) 1 2 (nI n) := ⟨_, rfl⟩
    obtain ⟨w6, ew6⟩ := hw6
    have w610 : w6 0 10 = nI n := by rw [ew6]; exact h010
    have w65 : w6 5 = r 5 := by rw [ew6]; exact hvr 5 (by decide)
    have w61 : w6 1 = upd (upd (r 1) 1 x) 2 (nI n) := by rw [ew6, ← hvr 1 (by decide)]; rfl
    have hr' : f_X11_law r = some (x, z_up (zst w6 1 (fun j => if 305 + 0 ≤ j ∧ j < 305 + n then w6 5 (j - 305) else w6 1 j)) 0 6 0) := by
      rw [hrl, if_pos g2, zl, if_pos (show (z_up v' 0 0 0) 0 0 ≤ 0 by rw [t00]; decide), zl, zl, show (z_up (z_up v' 0 0 0) 1 1 x) 0 10 = nI n from h010, ← ew6]
      exact pr_law55 x hn n 0 5000 w6 (by omega) (by omega) w610
    refine ⟨x, _, hr', by rw [ew6]; rfl, fun N hN => ?_⟩
    have hd : (z_up (zst w6 1 (fun j => if 305 + 0 ≤ j ∧ j < 305 + n then w6 5 (j - 305) else w6 1 j)) 0 6 0) 1 = (fun j => if 305 + 0 ≤ j ∧ j < 305 + n then w6 5 (j - 305) else w6 1 j) := rfl
    have hv' : ∀ j, (z_up (zst w6 1 (fun j => if 305 + 0 ≤ j ∧ j < 305 + n then w6 5 (j - 305) else w6 1 j)) 0 6 0) 1 j = if 305 ≤ j ∧ j < 305 + n then r 5 (j - 305) else upd (upd (r 1) 1 x) 2 (nI n) j := fun j => by rw [hd, w65, w61]
    have hrow0 : ∀ y, y ≠ 1 → y ≠ 0 → (z_up (zst w6 1 (fun j => if 305 + 0 ≤ j ∧ j < 305 + n then w6 5 (j - 305) else w6 1 j)) 0 6 0) y = r y := fun y h1 h0 => by
      rw [z_up_ne h0, zst_n h1, ew6, z_up_ne h1, z_up_ne h1, z_up_ne h0, hvr y h0]
    have hrow00 : ∀ j, j ≠ 6 → (z_up (zst w6 1 (fun j => if 305 + 0 ≤ j ∧ j < 305 + n then w6 5 (j - 305) else w6 1 j)) 0 6 0) 0 j = (z_up v' 0 0 0) 0 j := fun j hj => by
      rw [z_up_eq, upd_ne hj, zst_n (by decide), ew6, z_up_ne (by decide), z_up_ne (by decide)]
    have hrow06 : (z_up (zst w6 1 (fun j => if 305 + 0 ≤ j ∧ j < 305 + n then w6 5 (j - 305) else w6 1 j)) 0 6 0) 0 6 = 0 := rfl
    generalize z_up (zst w6 1 (fun j => if 305 + 0 ≤ j ∧ j < 305 + n then w6 5 (j - 305) else w6 1 j)) 0 6 0 = rr at hv' hrow0 hrow00 hrow06
    clear hd
    have hr1 : rr 1 1 = nI m := by rw [hv', if_neg (by omega), upd_ne (by decide), upd_eq]; exact gx
    have hr2 : rr 1 2 = nI n := by rw [hv', if_neg (by omega), upd_eq]
    have hrt : ∀ j, j < n → rr 1 (305 + j) = r 5 j := fun j hj => by rw [hv', if_pos (by omega), show 305 + j - 305 = j by omega]
    have hrx : ∀ j, j < 305 → j ≠ 1 → j ≠ 2 → rr 1 j = r 1 j := fun j j1 j2 j3 => by rw [hv', if_neg (by omega), upd_ne j3, upd_ne j2]
    have cm : (nI m).toNatClampNeg = m := nI_clamp (by omega)
    have ck : (nI k).toNatClampNeg = k := nI_clamp (by omega)
    have hu3 : ∀ x, x ≠ 0 → x ≠ 1 → (z_up (z_up u' 1 1 0) 0 11 (-1)) x = u' x := fun x h0 h1 => by rw [z_up_ne h0, z_up_ne h1]
    have h8 : (z_up (z_up u' 1 1 0) 0 11 (-1)) 29 8 = nI m := by rw [hu3 29 (by decide) (by decide)]; exact a1
    have h9 : (z_up (z_up u' 1 1 0) 0 11 (-1)) 29 9 = nI k := by rw [hu3 29 (by decide) (by decide)]; exact a2
    have hcl := hcl N
    rw [hut _ g1, if_pos rfl, z_bxr, h8, h9, cm, ck, if_pos ⟨⟨nI_pos (by omega), by omega⟩, nI_pos (by omega), a4⟩] at hcl
    generalize z_up (z_up u' 1 1 0) 0 11 (-1) = u3 at hA hu3 h8 h9 hcl
    have hq5 : ∃ u5, u5 = f_X0_forget (zup q 0 (zLn N m k)) (uLw (zst u3 N zO0) N (N + 1)) := ⟨_, rfl⟩
    obtain ⟨u5, e5⟩ := hq5
    have hcl : f_X10_law N q u = some (.inr (u5 N 0), zup q 0 (zLn N m k), u5) := by rw [e5]; exact hcl
    have e5' : u5 = z_up (uLw (zst u3 N zO0) N (N + 1)) 38 2 0 := by rw [e5, f_X0_forget_e, zl]
    have z3 : ∀ x, x ≠ N → (zst u3 N zO0) x = u3 x := fun x hx => zst_n hx
    have z29 : (zst u3 N zO0) 29 8 = nI m := by rw [z3 29 (by omega)]; exact h8
    have hL0 : u5 N 0 = nI m := by
      rw [e5', z_up_ne (by omega)]
      unfold uLw
      rw [zst_n (by omega), zst_n (by omega), zst_n (by omega), zst_n (by omega), zst_n (by omega), zst_n (by omega), zst_n (by omega), zupe, z29]
    have hLr : u5 (N + 1) = u' 30 ∧ u5 (N + 2) = u' 31 ∧ u5 (N + 3) = u' 32 ∧ u5 (N + 4) = u' 33 ∧ u5 (N + 5) = u' 34 ∧ u5 (N + 6) = u' 35 := by
      rw [e5']
      unfold uLw
      refine ⟨?_, ?_, ?_, ?_, ?_, ?_⟩
      · rw [z_up_ne (by omega), zst_n (by omega), zst_n (by omega), zst_n (by omega), zst_n (by omega), zst_n (by omega), zst_n (by omega), zst_e, z3 30 (by omega), hu3 30 (by decide) (by decide)]
      · rw [z_up_ne (by omega), zst_n (by omega), zst_n (by omega), zst_n (by omega), zst_n (by omega), zst_n (by omega), show N + 2 = N + 1 + 1 by omega, zst_e, z3 31 (by omega), hu3 31 (by decide) (by decide)]
      · rw [z_up_ne (by omega), zst_n (by omega), zst_n (by omega), zst_n (by omega), zst_n (by omega), show N + 3 = N + 1 + 2 by omega, zst_e, z3 32 (by omega), hu3 32 (by decide) (by decide)]
      · rw [z_up_ne (by omega), zst_n (by omega), zst_n (by omega), zst_n (by omega), show N + 4 = N + 1 + 3 by omega, zst_e, z3 33 (by omega), hu3 33 (by decide) (by decide)]
      · rw [z_up_ne (by omega), zst_n (by omega), zst_n (by omega), show N + 5 = N + 1 + 4 by omega, zst_e, z3 34 (by omega), hu3 34 (by decide) (by decide)]
      · rw [z_up_ne (by omega), zst_n (by omega), show N + 6 = N + 1 + 5 by omega, zst_e, z3 35 (by omega), hu3 35 (by decide) (by decide)]
    have hLo : ∀ x, x ≠ 38 → ¬ (N ≤ x ∧ x < N + 8) → u5 x = u3 x := fun x h1 h2 => by
      rw [e5', z_up_ne h1]
      unfold uLw
      rw [zst_n (by omega), zst_n (by omega), zst_n (by omega), zst_n (by omega), zst_n (by omega), zst_n (by omega), zst_n (by omega), z_up_ne (by omega), zst_n (by omega)]
    have h382 : u5 38 2 = 0 := by rw [e5']; rfl
    have h381 : u5 38 1 = u3 38 1 := by
      rw [e5', zupo (by omega)]
      unfold uLw
      rw [zst_n (by omega), zst_n (by omega), zst_n (by omega), zst_n (by omega), zst_n (by omega), zst_n (by omega), zst_n (by omega), z_up_ne (by omega), zst_n (by omega)]
    refine ⟨_, u5, by rw [gx, ← hL0]; exact hcl, fun hq14 => ?_⟩
    clear hcl e5 e5'
    obtain ⟨l1, l2, l3, l4, l5, l6⟩ := hLr
    have hCL : CL u5 (zLn N m k) (fun wh o => lnT (u' 30) (u' 31) (u' 33) (u' 34) (u' 35) E wh o m) := by
      have := CL_of (L := zLn N m k) (m := m) (M := k) (E := E) (u := u5) rfl rfl hm a4 (fun j j1 j2 => by show (if j < 8 then N + j else _) ≠ N + 7; rw [if_pos (by omega)]; omega) (by
        show LWf (u5 (N + 3)) (u5 (N + 4)) (u5 (N + 5)) (u5 (N + 6)) E m k
        rw [l3, l4, l5, l6]; exact gL)
      have e : (fun wh o => lnT (u5 (zLn N m k 1)) (u5 (zLn N m k 2)) (u5 (zLn N m k 4)) (u5 (zLn N m k 5)) (u5 (zLn N m k 6)) E wh o m) = (fun wh o => lnT (u' 30) (u' 31) (u' 33) (u' 34) (u' 35) E wh o m) := by
        show (fun wh o => lnT (u5 (N + 1)) (u5 (N + 2)) (u5 (N + 4)) (u5 (N + 5)) (u5 (N + 6)) E wh o m) = _
        rw [l1, l2, l4, l5, l6]
      rw [e] at this
      exact this
    have hRL : RLw (rr 1) (fun wh o => lnT (u' 30) (u' 31) (u' 33) (u' 34) (u' 35) E wh o m) := by
      by_cases hm0 : m = 0
      · refine Or.inl ⟨by rw [hr1, hm0]; decide, fun wh o => by rw [hm0]; rfl⟩
      · refine Or.inr ⟨by rw [hr1]; exact nI_le (a := 1) (by omega) (by omega), fun w o b1 b2 b3 b4 b5 b6 b7 b8 => ?_⟩
        obtain ⟨ua, xa, va, f1, f2, hE2⟩ := j_lread s3 s4 s5 S8 S9 S1 (v0 := w) ⟨hn, by rw [b4, hr2], Or.inr ⟨b3, fun j hj => by rw [b2 _ (by omega) (by omega), hrt j hj]⟩⟩ b5 b6 b7
        have hua : ua = u' := by rw [e1] at f1; exact (Option.some.inj f1).symm
        subst hua
        rcases hE2 with ⟨-, -, m2, i2, hm2, -, E2, k2, ⟨d1, d2, d3, d4, d5⟩, dL, ds, ⟨d18, d19⟩, -, dN⟩ | ⟨wf, hwf, y1, -, -⟩
        · obtain rfl : m2 = m := (nI_eq (by omega) (by omega)).mp (d1.symm.trans a1)
          obtain rfl : k2 = k := (nI_eq (by omega) (by omega)).mp (d2.symm.trans a2)
          have hT : ∀ wh, lnT (ua 30) (ua 31) (ua 33) (ua 34) (ua 35) E2 wh (ov w) m2 = lnT (ua 30) (ua 31) (ua 33) (ua 34) (ua 35) E wh o m2 := fun wh =>
            lnT_ext (A3 := ua 32) (by omega) (fun _ _ => ⟨rfl, rfl, rfl⟩) (ov_of b8) m2 gL (fun j hj => ⟨rfl, rfl, by
              have q1 := gL.1 j hj
              have q2 := dL.1 j hj
              exact (nI_eq (by omega) (by omega)).mp (q2.1.symm.trans q1.1)⟩)
          rw [hT] at d18 d19
          rw [hT] at d19
          exact ⟨xa, va, f2, fun y hy => funext fun j => dN y j (by omega), fun j j1 j2 j3 j4 j5 => dN 0 j (by omega), d18, d19⟩
        · exact absurd (y1.symm.trans g1) (pu_m1 (by omega))
    have hTB : TB (fun wh o => lnT (u' 30) (u' 31) (u' 33) (u' 34) (u' 35) E wh o m) := fun o => by
      obtain ⟨s, q1, q2⟩ := lnT_sm (A1 := u' 30) (A2 := u' 31) (K := u' 33) (A := u' 34) (B := u' 35) (E := E) (wh := 0) (o := o) m hm gs
      exact ⟨s, by omega, q2⟩
    refine ⟨_, T', hA.nl hN hq14 hLo h382 h381 hCL hRL hTB (hL0.trans hr1.symm) (fun j j1 j2 j3 => ?_) ?_ ?_ ?_ hrow06 ?_ ?_⟩
    · rw [hrx j j1 j2 j3, z_up_ne (by decide), hvr 1 (by decide)]
    · rw [hrow0 2 (by decide) (by decide), z_up_ne (by decide), hvr 2 (by decide)]
    · rw [hrow0 5 (by decide) (by decide), z_up_ne (by decide), hvr 5 (by decide)]
    · exact hrow00 3 (by decide)
    · exact hrow00 8 (by decide)
    · exact hrow00 12 (by decide)
  · have hne : nI w ≠ -1 := pu_m1 (by omega)
    refine Or.inl ⟨_, z_up v' 0 0 1, fun N => ?_, ?_, t00 _ _, T, T', hrr (nI w) (z_up v' 0 0 1) _ g2.symm rfl (fun j a b c d e => by rw [z_up_eq, upd_ne a]; exact hv0j j b c d e) (fun x hx => by rw [z_up_ne hx]; exact hvr x hx)⟩
    · rw [hcl N, hut _ g1, if_neg hne, z_bxl]
    · rw [hrl, if_neg (by rw [g2]; exact hne), zl, if_neg (show ¬ (z_up v' 0 0 1) 0 0 ≤ 0 by rw [t00]; decide)]
