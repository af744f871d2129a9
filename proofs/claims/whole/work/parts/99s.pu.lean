/-! PURE, 68: law -/
/-- the law's text, read by both -/
theorem j_lread {t : Nat → Int32} {n : Nat} {us v0 : zU} (hJ : JC t n us) (s4 : us 3 4 = nI 0) (s5 : us 3 5 = -1) (s8 : us 29 8 = nI 0) (s9 : us 29 9 = nI 0) (s1 : us 29 1 = 12) (hX : TX t n v0) (v11 : v0 0 11 = nI 0) (v12 : v0 0 12 = -1) (v13 : v0 0 13 = nI 0) : ∃ u' x v', (z_let (f_X8_atEnd us) (fun t2 => if t2 = true then (some us) else ((f_X5_readLine us).bind (fun u3 => f_X6_readL_24 5000 (1 : Int32) u3)))) = some u' ∧ f_X11_read true v0 = some (x, v') ∧ REND n 12 (QL us v0) (fun a b => KM us a ∧ KN v0 b) x u' v' := by
  have hOK : OKs t n 0 0 us v0 := ⟨hJ, hX, ⟨s5, s4, Nat.zero_le _⟩, v12, v11, Nat.zero_le _, rfl⟩
  obtain ⟨u', x, v', e1, e2, hE⟩ := j_read (t := t) (n := n) (e := 8) (mx := 12) (reg := 29) (lc := f_X5_readLine) (lr := f_X11_lawLine) (C := f_X6_readL_24) (R := fun m => f_X11_read_23 m true)
    (Q := QL us v0) (QF := fun a b => KM us a ∧ KN v0 b) (by decide) (by decide) readL_s (fun m x2 x3 w => read_t m x2 x3 w) (by decide)
    (fun k i i' a b a' b' hq hi k1 k2 => hq.kc hi k1 k2)
    (fun k i a b a' b' hq k1 k2 => by
      obtain ⟨E, k0, -, -, -, -, d1, d2⟩ := hq
      exact ⟨d1.tr k1.l.m, d2.tr k2.n⟩)
    (fun a b a' b' ⟨q4, q5⟩ k1 k2 => ⟨q4.tr k1.l.m, q5.tr k2.n⟩)
    (fun k i a b hq => by
      obtain ⟨E, k0, -, -, -, -, d1, d2⟩ := hq
      rw [d1 29 1 (by omega) (by omega) (by omega)]; exact s1)
    (fun k i p a b hk ho hq => j_lline v13 hk ho hq)
    hOK ⟨fun _ => 0, 0, ⟨s8, s9, Nat.le_refl _, by omega, rfl⟩, ⟨fun j hj => absurd hj (by omega), fun j hj => absurd hj (by omega)⟩, fun j hj => absurd hj (by omega), ⟨by show _ = v0 0 18 + 0; lia, by show _ = v0 0 19 + 0 - 0; lia⟩, fun _ _ _ _ _ => rfl, fun _ _ _ => rfl⟩ (f1 := 5000) (f2 := 5000) (by decide) (by decide)
  exact ⟨u', x, v', e1, by rw [f_X11_read_e]; exact e2, hE⟩
theorem pr_law55 (x : Int32) {n : Nat} (hn : n ≤ 400) : ∀ d k fuel w, k + d = n → d < fuel → w 0 10 = nI n → f_X11_law_55 fuel x (nI k) w = some (x, z_up (zst w 1 (fun j => if 305 + k ≤ j ∧ j < 305 + n then w 5 (j - 305) else w 1 j)) 0 6 0) := by
  intro d
  induction d with
  | zero =>
    intro k fuel w hk hf h10
    obtain ⟨m, rfl⟩ : ∃ m, fuel = m + 1 := ⟨fuel - 1, by omega⟩
    rw [f_X11_law_55_s, h10, if_pos (nI_le (by omega) (by omega)), zl]
    have : zst w 1 (fun j => if 305 + k ≤ j ∧ j < 305 + n then w 5 (j - 305) else w 1 j) = w := by
      funext r
      by_cases e : r = 1
      · subst e
        rw [zst_e]
        funext j
        exact if_neg (by omega)
      · rw [zst_n e]
    rw [this]
  | succ d ih =>
    intro k fuel w hk hf h10
    obtain ⟨m, rfl⟩ : ∃ m, fuel = m + 1 := ⟨fuel - 1, by omega⟩
    rw [f_X11_law_55_s, h10, if_neg (nI_ge (show k < n by omega) (by omega)), if_pos (pu_in (show k < 400 by omega) (by decide)), zl, show (305 : Int32) + nI k = nI (305 + k) from nI_add 305 k, if_pos (pu_in (show 305 + k < 705 by omega) (by decide)), zl, nI_clamp (by omega), nI_clamp (by omega), nI_1, ih (k + 1) m (z_up w 1 (305 + k) (w 5 k)) (by omega) (by omega) (by rw [z_up_ne (by decide)]; exact h10)]
    have : zst (z_up w 1 (305 + k) (w 5 k)) 1 (fun j => if 305 + (k + 1) ≤ j ∧ j < 305 + n then (z_up w 1 (305 + k) (w 5 k)) 5 (j - 305) else (z_up w 1 (305 + k) (w 5 k)) 1 j) = zst w 1 (fun j => if 305 + k ≤ j ∧ j < 305 + n then w 5 (j - 305) else w 1 j) := by
      funext r
      by_cases e : r = 1
      · subst e
        rw [zst_e, zst_e]
        funext j
        by_cases e2 : j = 305 + k
        · subst e2
          rw [if_neg (by omega), if_pos (by omega), zupe, show 305 + k - 305 = k by omega]
        · rw [show (z_up w 1 (305 + k) (w 5 k)) 5 (j - 305) = w 5 (j - 305) from zupo (by omega), show (z_up w 1 (305 + k) (w 5 k)) 1 j = w 1 j from zupo (by omega)]
          by_cases e3 : 305 + (k + 1) ≤ j ∧ j < 305 + n
          · rw [if_pos e3, if_pos (by omega)]
          · rw [if_neg e3, if_neg (by omega)]
      · rw [zst_n e, zst_n e, z_up_ne e]
    rw [this]
theorem wr_n38 : ∀ k, k < 15 → wr k + 10 ≠ 38 ∧ wr k + 9 ≠ 38 ∧ wr k + 10 < 222 ∧ wr k + 9 < 222 := by decide +kernel
/-- a new law -/
theorem RRb.nl {q : zq} {u u' r r' : zU} {T T' T2 : zT} (h : RRb q u r T T') {n N M : Nat} (hn : 222 ≤ n) (hq : ∀ j, j < 8 → q 14 j < n) (hu : ∀ x, x ≠ 38 → ¬ (n ≤ x ∧ x < n + 8) → u' x = u x) (h382 : u' 38 2 = 0) (h381 : u' 38 1 = u 38 1) (hC : CL u' (zLn n N M) T2) (hR : RLw (r' 1) T2) (hB : TB T2) (h0 : u' n 0 = r' 1 1) (hv : ∀ j, j < 305 → j ≠ 1 → j ≠ 2 → r' 1 j = r 1 j) (h2 : r' 2 = r 2) (h5 : r' 5 = r 5) (h03 : r' 0 3 = r 0 3) (h06 : r' 0 6 = 0) (h08 : r' 0 8 = r 0 8) (h012 : r' 0 12 = r 0 12) : RRb (zup q 0 (zLn n N M)) u' r' T2 T' := by
  obtain ⟨⟨⟨a1, a2, a3, a4⟩, a5, a6, a7, a8⟩, b, c, ⟨tn, t1, t2, t3, t4⟩, e, ⟨a, y, f1, f2, f3, f4, f5, f6⟩, g⟩ := h
  have h8 := a2.n8
  have hlo : ∀ x, x < 222 → x ≠ 38 → u' x = u x := fun x hx hne => hu x hne (by omega)
  have eq0 : zup q 0 (zLn n N M) 0 = zLn n N M := zup_e
  have eq14 : zup q 0 (zLn n N M) 14 = q 14 := zup_o (by decide)
  have eL : ∀ j, j < 8 → zLn n N M j = n + j := fun j hj => if_pos hj
  have hI := a2.ex (v' := r' 1) (fun k hk => hv k (by omega) (by omega) (by omega))
  have hkp : ∀ s v, s < 13 → KP u s v → KP u' s v := fun s v hs hK => by
    obtain ⟨k1, k2, k3, k4, k5⟩ := hK
    have hw := wr_k s hs
    exact ⟨k1.fr (fun x y1 y2 => by rw [hw] at y1 y2; exact hlo x (by omega) (by omega)), k2, k3.fr (hlo _ (by omega) (by omega)) (hlo _ (by omega) (by omega)) rfl (fun _ _ _ => rfl), by rw [hlo _ (by omega) (by omega)]; exact k4, k5⟩
  refine ⟨⟨⟨?_, hI.1, by rw [eq0]; exact hC, hR⟩, hB, ?_, ?_, ?_⟩, b.fr (hlo 36 (by decide) (by decide)) (hlo 37 (by decide) (by decide)) (hv 11 (by decide) (by decide) (by decide)) (fun k k1 k2 => hv k (by omega) (by omega) (by omega)), ⟨?_, ?_⟩, ?_, ?_, ⟨0, y, by omega, f2, h382, h06, by rw [h381]; exact f5, fun b hb => absurd hb (by omega)⟩, ?_⟩
  · exact (a1.fr (fun x y1 y2 => hlo x (by omega) (by omega))).ex (fun k k1 k2 k3 => hv k (by omega) (by omega) (by omega))
  · rw [eq0, eL 0 (by decide)]; exact h0
  · rw [eq0]
    refine ⟨fun j j1 j2 => Or.inl (by rw [eL j j2]; omega), Or.inl (by rw [eL 0 (by decide)]; omega), by rw [eL 0 (by decide), eL 7 (by decide)]; omega⟩
  · exact a8.ex hI.2.1 (fun x hx => ⟨hv _ (by omega) (by omega) (by omega), hv _ (by omega) (by omega) (by omega)⟩)
  · rw [hlo 0 (by decide) (by decide), hv 0 (by decide) (by decide) (by decide)]; exact c.1
  · rw [hv 0 (by decide) (by decide) (by decide)]; exact c.2
  · exact ⟨tn, by rw [hlo 28 (by decide) (by decide), hlo 29 (by decide) (by decide)]; exact t1, by rw [hlo 1 (by decide) (by decide)]; exact t2, by rw [h08]; exact t3, fun k hk => by rw [hlo 2 (by decide) (by decide), h5]; exact t4 k hk⟩
  · rw [hlo 0 (by decide) (by decide), h012]; exact e
  · have e9 : u' 0 9 = u 0 9 := by rw [hlo 0 (by decide) (by decide)]
    rcases g with ⟨g1, g2⟩ | ⟨g1, g2, g3, g4, g5, g6, g7, g8, g9, g10⟩
    · exact Or.inl ⟨by rw [e9]; exact g1, by rw [h03]; exact g2⟩
    · have hlaw : ∀ j, j < 8 → u' (q 14 j) = u (q 14 j) := fun j hj => by
        refine hu _ ?_ (by have := hq j hj; omega)
        by_cases e : j = 0
        · subst e
          rcases g8.2.1 with y1 | ⟨k, hk, y1⟩
          · omega
          · rw [y1]; exact (wr_n38 k hk).2.1
        · rcases g8.1 j (by omega) hj with y1 | ⟨k, hk, y1⟩
          · omega
          · rw [y1]; exact (wr_n38 k hk).1
      refine Or.inr ⟨by rw [e9]; exact g1, by rw [h03]; exact g2, by rw [h2]; exact hkp 12 _ (by decide) g3, by rw [eq14]; exact g4.fr (fun j j1 j2 => hlaw j (by omega)), by rw [h2]; exact g5, g6, by rw [eq14, hlaw 0 (by decide), h2]; exact g7, by rw [eq14]; exact g8, ?_, ?_⟩
      · rw [eq14, eq0]
        exact Or.inr (fun j hj => by rw [eL 7 (by decide)]; have := hq j (by omega); omega)
      · intro hc
        rw [eq14, eq0] at hc
        have h1 := hq 0 (by decide)
        rw [hc, eL 0 (by decide)] at h1
        omega
