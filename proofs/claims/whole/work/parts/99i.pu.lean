/-! PURE, 58: fair -/
theorem RRb.fg {q : zq} {u r : zU} {T T' : zT} (h : RRb q u r T T') {x : Int32} (hx : sm x 12) : RRb q (z_up (z_up u 0 10 x) 38 2 0) (z_up (z_up r 1 0 x) 0 6 0) T T' := by
  obtain ⟨⟨⟨a1, a2, a3, a4⟩, a5, a6, a7, a8⟩, b, c, d, e, ⟨a, y, f1, f2, f3, f4, f5, f6⟩, g⟩ := h
  have hG : FrG u (z_up (z_up u 0 10 x) 38 2 0) := ⟨fun k h0 h6 h36 h37 h38 => by rw [z_up_ne h38, z_up_ne h0], fun j hj => by rw [z_up_ne (by decide), z_up_eq, upd_ne hj]⟩
  have hz : ∀ k, k ≠ 0 → k ≠ 38 → z_up (z_up u 0 10 x) 38 2 0 k = u k := fun k h0 h38 => by rw [z_up_ne h38, z_up_ne h0]
  have e1 : (z_up (z_up r 1 0 x) 0 6 0) 1 = upd (r 1) 0 x := rfl
  have hv : ∀ k, k ≠ 0 → upd (r 1) 0 x k = r 1 k := fun k hk => upd_ne hk
  have hI := a2.ex (v' := upd (r 1) 0 x) (fun k hk => hv k (by omega))
  have h8 := a2.n8
  refine ⟨⟨⟨?_, ?_, hG.cl a7 a3, ?_⟩, a5, ?_, a7, ?_⟩, b.fr (hz 36 (by decide) (by decide)) (hz 37 (by decide) (by decide)) (by rw [e1]; exact hv 11 (by decide)) (fun k _ _ => by rw [e1]; exact hv k (by omega)), ⟨?_, ?_⟩, d.g hG rfl rfl, e, ⟨0, y, by omega, f2, rfl, rfl, f5, fun b hb => absurd hb (by omega)⟩, g.g hG rfl rfl rfl rfl⟩
  · rw [e1]; exact (a1.fr (fun r h1 h2 => hz r (by omega) (by omega))).ex (fun k h1 h2 h3 => hv k (by omega))
  · rw [e1]; exact hI.1
  · rw [e1]; exact a4.ex (hv 1 (by decide)) (hv 2 (by decide)) (fun k h1 h2 => hv k (by omega))
  · rw [e1, hG.law a7 (by decide), hv 1 (by decide)]; exact a6
  · rw [e1]; exact a8.ex hI.2.1 (fun r hr => ⟨hv _ (by omega), hv _ (by omega)⟩)
  · rw [e1, upd_eq]; rfl
  · rw [e1, upd_eq]; exact hx
theorem Th0 (t : Nat → Int32) (n : Nat) : Th t n 0 = spT t n n 0 := rfl
/-- the class's things, split -/
theorem JC.split {u : zU} {t : Nat → Int32} {n : Nat} (hn : n ≤ 400) (h1 : u 1 1 = nI n) (ht : ∀ k, k < 400 → u 2 k = t k) : ∃ u', f_X8_split u = some u' ∧ (∀ r, r ≠ 3 → r ≠ 4 → r ≠ 5 → u' r = u r) ∧ JC t n u' ∧ u' 3 4 = nI 0 ∧ u' 3 5 = -1 := by
  obtain ⟨u', y1, y2, y3, y4, y5, y6, y7, y8⟩ := pc_split hn h1 ht
  refine ⟨u', y1, y2, ⟨⟨hn, ?_⟩, fun k hk => by rw [y2 2 (by decide) (by decide) (by decide)]; exact ht k hk, ?_, fun j hj => ?_⟩, y5, y6⟩
  · unfold NTh; rw [Th0]; exact y7
  · unfold NTh; rw [Th0]; exact y4
  · unfold thg; unfold NTh at hj; rw [Th0] at hj ⊢; exact y8 j hj
/-- a call that leaves of the class's world all but the spare wheel, the tape's length, the readers' rows -/
theorem RRb.rd {q : zq} {u u' r r' : zU} {T T' : zT} (h : RRb q u r T T') (hF : ∀ x, 6 ≤ x → ¬ (17 ≤ x ∧ x < 26) → ¬ (28 ≤ x ∧ x < 36) → u' x = u x) (h9 : u' 0 9 = u 0 9) (h10 : u' 0 10 = u 0 10) (hW : u' 0 11 = r' 0 12) (hT : TPe u' r') (h1 : r' 1 = r 1) (h2 : r' 2 = r 2) (h4 : r' 4 = r 4) (h03 : r' 0 3 = r 0 3) (h06 : r' 0 6 = r 0 6) : RRb q u' r' T T' := by
  have hap := h.1.2.2.2.1.ap (i := 1) (by decide)
  have hi : RRb q (fun x => if 17 ≤ x ∧ x < 26 then u' x else u x) r T T' := by
    refine h.tmp (w := 17) (Or.inr rfl) (fun x hx _ => if_neg (by omega)) (h.1.1.1.fr (fun x a b => if_neg (by omega))) (h.1.1.2.2.1.fr (fun j a b => if_neg (hap j a (by omega)))) rfl rfl rfl rfl rfl rfl rfl rfl
  refine hi.gen (fun x a b => ?_) (by show u' 0 9 = (if 17 ≤ 0 ∧ 0 < 26 then u' 0 else u 0) 9; rw [if_neg (by omega)]; exact h9) (by show u' 0 10 = (if 17 ≤ 0 ∧ 0 < 26 then u' 0 else u 0) 10; rw [if_neg (by omega)]; exact h10) hW hT h1 h2 h4 h03 h06
  by_cases e : 17 ≤ x ∧ x < 26
  · exact (if_pos e).symm
  · exact (hF x a e b).trans (if_neg e).symm
abbrev eUO : String := "java/lang/UnsupportedOperationException"
theorem s_fair {q : zq} {u r : zU} (h : RR q u r) : ∃ o q' u' x r', f_X10_fair q u = some (o, q', u') ∧ f_X11_fair r = some (x, r') ∧ RR q' u' r' ∧ ANS [(eIA, 1), (eUO, 2)] o x (r' 0 0) := by
  obtain ⟨T, T', hb⟩ := h
  obtain ⟨n, ⟨hn, c28, c29⟩, t1, t2, t3⟩ := hb.2.2.2.1
  have hV := hb.1.1.2.1
  have hC := hb.1.2.2.2.2
  have hR := hb.1.1.1
  have hRc : RW (f_X9_copy 17 (q 1) 6 (q 0) u) 17 (r 1) := pc_copy (q 1) (q 0) (by omega) hR
  have o1 : ∀ x, ¬ (17 ≤ x ∧ x < 25) → f_X9_copy 17 (q 1) 6 (q 0) u x = u x := fun x hx => pc_cpo _ _ (by omega)
  have hfe := f_X10_fair_e q u
  rw [zl] at hfe
  generalize f_X9_copy 17 (q 1) 6 (q 0) u = uc at hRc o1 hfe
  rw [zl, show zup q 1 (q 0) 1 = q 0 from zup_e, f_X6_readF_e] at hfe
  obtain ⟨us, s1, s2, s3, s4, s5⟩ := JC.split (u := uc) (t := r 5) hn (by rw [o1 1 (by omega)]; exact t1) (fun k hk => by rw [o1 2 (by omega)]; exact (t3 k hk).1)
  rw [s1, Option.bind_some] at hfe
  have hre := f_X11_fair_e r
  rw [pr_putsAside, Option.bind_some, zl, f_X11_begins_e, zl, zl, zl, zl, zl, zl] at hre
  have hv0 : ∃ v0, v0 = z_up (z_up (z_up (z_up (z_up (z_up (zst r 3 (cpy 305 0 (r 1) (r 3))) 0 12 (-1)) 0 9 (-1)) 0 10 (r 0 8)) 0 8 0) 0 11 0) 0 13 0 := ⟨_, rfl⟩
  obtain ⟨v0, ev0⟩ := hv0
  have hre : f_X11_fair r = z_b2 (f_X11_read false v0) (fun r3 u4 => if (u4 0 12) = (-1 : Int32) then (if (u4 1 0) = (12 : Int32) then (z_let (z_up u4 0 0 (2 : Int32)) (fun u9 => if (u9 0 0) ≤ 0 then (z_let (z_up u9 1 0 ((u9 1 0) + (1 : Int32))) (fun u10 => z_let (z_up u10 0 6 (0 : Int32)) (fun u11 => some (u11 1 0, u11)))) else ((f_X11_comesBack u9).bind (fun u12 => some ((0 : Int32), u12))))) else (z_let (z_up u4 0 0 (0 : Int32)) (fun u5 => if (u5 0 0) ≤ 0 then (z_let (z_up u5 1 0 ((u5 1 0) + (1 : Int32))) (fun u6 => z_let (z_up u6 0 6 (0 : Int32)) (fun u7 => some (u7 1 0, u7)))) else ((f_X11_comesBack u5).bind (fun u8 => some ((0 : Int32), u8)))))) else (z_let (z_up u4 0 0 (1 : Int32)) (fun u13 => if (u13 0 0) ≤ 0 then (z_let (z_up u13 1 0 ((u13 1 0) + (1 : Int32))) (fun u14 => z_let (z_up u14 0 6 (0 : Int32)) (fun u15 => some (u15 1 0, u15)))) else ((f_X11_comesBack u13).bind (fun u16 => some ((0 : Int32), u16)))))) := by
    rw [ev0]; exact hre
  have v1 : v0 1 = r 1 := by rw [ev0]; rfl
  have v2 : v0 2 = r 2 := by rw [ev0]; rfl
  have v3 : v0 3 = cpy 305 0 (r 1) (r 3) := by rw [ev0]; rfl
  have v4 : v0 4 = r 4 := by rw [ev0]; rfl
  have v5 : v0 5 = r 5 := by rw [ev0]; rfl
  have v03 : v0 0 3 = r 0 3 := by rw [ev0]; rfl
  have v06 : v0 0 6 = r 0 6 := by rw [ev0]; rfl
  have v08 : v0 0 8 = 0 := by rw [ev0]; rfl
  have v09 : v0 0 9 = -1 := by rw [ev0]; rfl
  have v010 : v0 0 10 = nI n := by rw [ev0]; exact t2
  have v011 : v0 0 11 = nI 0 := by rw [ev0]; rfl
  have v012 : v0 0 12 = -1 := by rw [ev0]; rfl
  clear ev0
  have hOK : OKs (r 5) n 0 0 us v0 := ⟨s3, ⟨hn, v010, Or.inl ⟨v09, fun k hk => by rw [v5]⟩⟩, ⟨s5, s4, Nat.zero_le _⟩, v012, v011, Nat.zero_le _, rfl⟩
  have u28 : us 28 1 = 14 := by rw [s2 28 (by decide) (by decide) (by decide), o1 28 (by omega)]; exact c28
  obtain ⟨u', x, v', e1, e2, hE⟩ := j_read (t := r 5) (n := n) (e := 0) (mx := 14) (reg := 28) (lc := f_X1_readLine (q 0)) (lr := f_X11_fairLine) (C := f_X6_readF_24 (q 0)) (R := fun m => f_X11_read_23 m false)
    (Q := fun _ _ a b => RW a 17 (b 1) ∧ IV (b 1) ∧ CAP (b 1) ∧ KF us a ∧ KG v0 b) (QF := fun a b => KF us a ∧ KG v0 b) (by decide) (by decide) (readF_s (q 0)) (fun m x2 x3 w => read_f m x2 x3 w) (by decide)
    (fun k i i' a b a' b' ⟨q1, q2, q3, q4, q5⟩ _ k1 k2 => by
      have : b' 1 = b 1 := funext fun j => k2 1 j (by omega)
      exact ⟨by rw [this]; exact q1.fr (fun x y z => funext fun j => k1 x j (by omega)), by rw [this]; exact q2, by rw [this]; exact q3, q4.tr k1.f, q5.tr k2.g⟩)
    (fun k i a b a' b' ⟨q1, q2, q3, q4, q5⟩ k1 k2 => ⟨q4.tr k1.f, q5.tr k2.g⟩)
    (fun a b a' b' ⟨q4, q5⟩ k1 k2 => ⟨q4.tr k1.f, q5.tr k2.g⟩)
    (fun k i a b ⟨q1, q2, q3, q4, q5⟩ => by rw [q4 28 1 (by omega) (by omega)]; exact u28)
    (fun k i p a b hk ho ⟨q1, q2, q3, q4, q5⟩ => by
      obtain ⟨a', b', l1, l2, l3, l4, l5⟩ := j_line ho q1 q2 q3 (q 0)
      refine ⟨a', b', l1, l2, ?_⟩
      rcases l3 with ⟨i', p', m1, m2, m3, m4, m5⟩ | f
      · exact Or.inl ⟨i', p', m1, m2, m3, m4, m5, q4.tr l4, q5.tr l5⟩
      · exact Or.inr ⟨f, q4.tr l4, q5.tr l5⟩)
    hOK ⟨by rw [v1]; exact hRc.fr (fun x a b => s2 x (by omega) (by omega) (by omega)), by rw [v1]; exact hV, by rw [v1]; exact hC, fun _ _ _ _ => rfl, fun _ _ _ _ => rfl⟩ (f1 := 5000) (f2 := 5000) (by decide) (by decide)
  have hcl : ∀ y q3 w, z_bx (f_X10_useText (zup q 1 (q 0)) u') (fun w4 q6 u5 => if (u5 0 10) < (12 : Int32) then (z_let (f_X9_copy 6 (q6 0) 17 (q6 1) u5) (fun u7 => z_let (zup q6 0 (q6 1)) (fun q8 => z_let (z_up u7 0 10 ((u7 0 10) + (1 : Int32))) (fun u9 => z_let (f_X0_forget (q8) u9) (fun u10 => some (.inr (u10 0 10), q8, u10)))))) else (some (.inl "java/lang/UnsupportedOperationException", q6, u5))) = some (y, q3, w) → f_X10_fair q u = some (y, q3, w) := fun y q3 w hw => by
    rw [hfe, e1, Option.bind_some]; exact hw
  have hrl : ∀ y w, (if (v' 0 12) = (-1 : Int32) then (if (v' 1 0) = (12 : Int32) then (z_let (z_up v' 0 0 (2 : Int32)) (fun u9 => if (u9 0 0) ≤ 0 then (z_let (z_up u9 1 0 ((u9 1 0) + (1 : Int32))) (fun u10 => z_let (z_up u10 0 6 (0 : Int32)) (fun u11 => some (u11 1 0, u11)))) else ((f_X11_comesBack u9).bind (fun u12 => some ((0 : Int32), u12))))) else (z_let (z_up v' 0 0 (0 : Int32)) (fun u5 => if (u5 0 0) ≤ 0 then (z_let (z_up u5 1 0 ((u5 1 0) + (1 : Int32))) (fun u6 => z_let (z_up u6 0 6 (0 : Int32)) (fun u7 => some (u7 1 0, u7)))) else ((f_X11_comesBack u5).bind (fun u8 => some ((0 : Int32), u8)))))) else (z_let (z_up v' 0 0 (1 : Int32)) (fun u13 => if (u13 0 0) ≤ 0 then (z_let (z_up u13 1 0 ((u13 1 0) + (1 : Int32))) (fun u14 => z_let (z_up u14 0 6 (0 : Int32)) (fun u15 => some (u15 1 0, u15)))) else ((f_X11_comesBack u13).bind (fun u16 => some ((0 : Int32), u16)))))) = some (y, w) → f_X11_fair r = some (y, w) := fun y w hw => by
    have e2 : f_X11_read false v0 = some (x, v') := by rw [f_X11_read_e]; exact e2
    rw [hre, e2, z_b2s]; exact hw
  clear hfe hre e1 e2
  have hfr : KF us u' ∧ KG v0 v' := by
    rcases hE with ⟨-, -, m, -, -, -, -, -, -, a, b⟩ | ⟨w, -, -, -, a, b⟩
    · exact ⟨a, b⟩
    · exact ⟨a, b⟩
  obtain ⟨kf, kg⟩ := hfr
  have hfu : ∀ x, x ≠ 3 → x ≠ 4 → x ≠ 5 → ¬ (17 ≤ x ∧ x < 26) → u' x = u x := fun x a b c d => by
    rw [show u' x = us x from funext fun j => kf x j (by omega) d, s2 x a b c, o1 x (by omega)]
  have v1' : ∀ j, ¬ (3 ≤ j ∧ j < 65 ∧ j ≠ 11) → v' 1 j = r 1 j := fun j hj => by rw [kg 1 j (by omega) (by omega), v1]
  have vr : ∀ x, 2 ≤ x → v' x = v0 x := fun x hx => funext fun j => kg x j (by omega) (by omega)
  have v0j : ∀ j, j ≠ 11 → j ≠ 12 → v' 0 j = v0 0 j := fun j a b => kg 0 j (by omega) (by omega)
  have hcb : ∀ c : Int32, f_X11_comesBack (z_up v' 0 0 c) = some (zst (z_up v' 0 0 c) 1 (r 1)) := fun c => by
    rw [pr_comesBack]
    have : cpy 305 0 ((z_up v' 0 0 c) 3) ((z_up v' 0 0 c) 1) = r 1 := by
      rw [show (z_up v' 0 0 c) 3 = v' 3 from rfl, show (z_up v' 0 0 c) 1 = v' 1 from rfl, vr 3 (by decide), v3]
      funext j
      by_cases hj : j < 305
      · rw [cpy_0 hj, cpy_0 hj]
      · rw [cpy_out (by omega)]; exact v1' j (by omega)
    rw [this]
  have hrr : ∀ (z : Int32) (w c : zU), z = w 0 12 → c = z_up (z_up u' 1 1 0) 0 11 z → (∀ j, j ≠ 0 → j ≠ 11 → j ≠ 12 → w 0 j = v0 0 j) → (∀ x, 2 ≤ x → w x = v0 x) → w 1 = r 1 → RRb (zup q 1 (q 0)) c w T T' := fun z w c hz hc w0 w2 w1 => by
    refine RRb.q1 (hb.rd (fun x a b d => ?_) ?_ ?_ ?_ ?_ w1 ?_ ?_ ?_ ?_) _
    · rw [hc, z_up_ne (by omega), z_up_ne (by omega)]; exact hfu x (by omega) (by omega) (by omega) b
    · rw [hc, z_up_eq, upd_ne (by decide), z_up_ne (by decide), hfu 0 (by decide) (by decide) (by decide) (by omega)]
    · rw [hc, z_up_eq, upd_ne (by decide), z_up_ne (by decide), hfu 0 (by decide) (by decide) (by decide) (by omega)]
    · rw [hc, z_up_eq, upd_eq]; exact hz
    · refine ⟨0, ⟨Nat.zero_le _, ?_, ?_⟩, ?_, ?_, fun k hk => ?_⟩
      · rw [hc, z_up_ne (by decide), z_up_ne (by decide), hfu 28 (by decide) (by decide) (by decide) (by omega)]; exact c28
      · rw [hc, z_up_ne (by decide), z_up_ne (by decide), hfu 29 (by decide) (by decide) (by decide) (by omega)]; exact c29
      · rw [hc]; rfl
      · rw [w0 8 (by decide) (by decide) (by decide), v08]; rfl
      · rw [hc, z_up_ne (by decide), z_up_ne (by decide), hfu 2 (by decide) (by decide) (by decide) (by omega), w2 5 (by decide), v5]; exact t3 k hk
    · rw [w2 2 (by decide), v2]
    · rw [w2 4 (by decide), v4]
    · rw [w0 3 (by decide) (by decide) (by decide), v03]
    · rw [w0 6 (by decide) (by decide) (by decide), v06]
  have hut : ∀ z : Int32, u' 3 5 = z → f_X10_useText (zup q 1 (q 0)) u' = if z = (-1 : Int32) then (some (.inr (), zup q 1 (q 0), z_up (z_up u' 1 1 0) 0 11 z)) else (some (.inl eIA, zup q 1 (q 0), z_up (z_up u' 1 1 0) 0 11 z)) := fun z hz => by
    rw [f_X10_useText_e, zl, show (z_up u' 1 1 0) 3 5 = z from hz, zl, show (z_up (z_up u' 1 1 0) 0 11 z) 0 11 = z from rfl]
  rcases hE with ⟨g1, g2, m, -, -, -, g3, g4, g5, -, -⟩ | ⟨w, hw, g1, g2, -, -⟩
  · have e10 : (z_up (z_up u' 1 1 0) 0 11 (-1)) 0 10 = r 1 0 := by
      rw [z_up_eq, upd_ne (by decide), z_up_ne (by decide), hfu 0 (by decide) (by decide) (by decide) (by omega)]; exact hb.2.2.1.1
    have e10' : v' 1 0 = r 1 0 := v1' 0 (by omega)
    obtain ⟨k, hk, k0⟩ := hb.2.2.1.2
    by_cases h12 : k = 12
    · refine ⟨.inl eUO, _, _, 0, _, hcl _ _ _ ?_, hrl _ _ ?_, ⟨T, T', hrr (-1) (zst (z_up v' 0 0 2) 1 (r 1)) _ g2.symm rfl (fun j a b c => ?_) (fun x hx => ?_) zst_e⟩, ?_⟩
      · rw [hut _ g1, if_pos rfl, z_bxr, e10, k0, h12, if_neg (by decide)]
      · rw [if_pos g2, e10', k0, h12, if_pos (by decide), zl, if_neg (show ¬ (z_up v' 0 0 2) 0 0 ≤ 0 by rw [t00]; decide), hcb, Option.bind_some]
      · rw [zst_n (by decide), z_up_eq, upd_ne a]; exact v0j j b c
      · rw [zst_n (by omega), z_up_ne (by omega)]; exact vr x hx
      · show (eUO, (zst (z_up v' 0 0 2) 1 (r 1)) 0 0) ∈ [(eIA, (1 : Int32)), (eUO, 2)]
        rw [zst_n (by decide), t00]
        exact List.mem_cons_of_mem _ (List.mem_singleton.mpr rfl)
    · have hk12 : k < 12 := by omega
      have hA := hrr (-1) (zst (z_up v' 0 0 0) 1 (r 1)) (z_up (z_up u' 1 1 0) 0 11 (-1)) g2.symm rfl (fun j a b c => by rw [zst_n (by decide), z_up_eq, upd_ne a]; exact v0j j b c) (fun x hx => by rw [zst_n (by omega), z_up_ne (by omega)]; exact vr x hx) zst_e
      have hq0 : zup q 1 (q 0) 0 = q 0 := zup_o (by decide)
      have hq1 : zup q 1 (q 0) 1 = q 0 := zup_e
      have hqq : zup (zup q 1 (q 0)) 0 (q 0) = zup q 1 (q 0) := by
        funext j
        by_cases e : j = 0
        · rw [e, zup_e, hq0]
        · exact zup_o e
      have R7 : RW (f_X9_copy 6 (q 0) 17 (q 0) (z_up (z_up u' 1 1 0) 0 11 (-1))) 6 (v' 1) := pc_copy (q 0) (q 0) (by omega) (g3.fr (fun x a b => by rw [z_up_ne (by omega), z_up_ne (by omega)]))
      have o7 : ∀ x, ¬ (6 ≤ x ∧ x < 14) → f_X9_copy 6 (q 0) 17 (q 0) (z_up (z_up u' 1 1 0) 0 11 (-1)) x = (z_up (z_up u' 1 1 0) 0 11 (-1)) x := fun x hx => pc_cpo _ _ (by omega)
      have hap := hb.1.2.2.2.1.ap (i := 0) (by decide)
      have hB := hA.wh (u' := f_X9_copy 6 (q 0) 17 (q 0) (z_up (z_up u' 1 1 0) 0 11 (-1))) (r' := z_up v' 0 0 0) (fun x hx _ => o7 x (by omega)) R7 g4 (hA.1.1.2.2.1.fr (fun j a b => o7 _ (by rw [hq0]; have := hap j a (by omega); intro hc; exact this ⟨hc.1, by have := hc.2; show q 0 j < 6 + 9; omega⟩))) g5 (fun j hj => by rw [zst_e]; exact v1' j (by omega)) rfl rfl rfl rfl rfl rfl rfl
      have hD := hB.fg (x := nI (k + 1)) ⟨k + 1, by omega, rfl⟩
      generalize hu7 : f_X9_copy 6 (q 0) 17 (q 0) (z_up (z_up u' 1 1 0) 0 11 (-1)) = u7 at o7 hB hD
      have e7 : u7 0 10 = nI k := by rw [o7 0 (by omega), e10, k0]
      refine ⟨.inr (nI (k + 1)), zup q 1 (q 0), _, nI (k + 1), _, hcl _ _ _ ?_, hrl _ _ ?_, ⟨T, T', hD⟩, ?_⟩
      · rw [hut _ g1, if_pos rfl, z_bxr, e10, k0, if_pos (show nI k < 12 from nI_lt (b := 12) hk12 (by decide)), hq0, hq1, hu7, zl, zl, zl, hqq, e7, nI_1, f_X0_forget_e, zl, zl]
        rfl
      · rw [if_pos g2, e10', k0, if_neg (show ¬ nI k = (12 : Int32) from fun e => h12 ((nI_eq (b := 12) (by omega) (by decide)).mp e)), zl, if_pos (show (z_up v' 0 0 0) 0 0 ≤ 0 by rw [t00]; decide), zl, zl, show (z_up v' 0 0 0) 1 0 = nI k from e10'.trans k0, nI_1]
        rfl
      · exact ⟨rfl, rfl⟩
  · have hne : nI w ≠ -1 := pu_m1 (by omega)
    refine ⟨.inl eIA, _, _, 0, _, hcl _ _ _ ?_, hrl _ _ ?_, ⟨T, T', hrr (nI w) (zst (z_up v' 0 0 1) 1 (r 1)) _ g2.symm rfl (fun j a b c => ?_) (fun x hx => ?_) zst_e⟩, ?_⟩
    · rw [hut _ g1, if_neg hne, z_bxl]
    · rw [if_neg (by rw [g2]; exact hne), zl, if_neg (show ¬ (z_up v' 0 0 1) 0 0 ≤ 0 by rw [t00]; decide), hcb, Option.bind_some]
    · rw [zst_n (by decide), z_up_eq, upd_ne a]; exact v0j j b c
    · rw [zst_n (by omega), z_up_ne (by omega)]; exact vr x hx
    · show (eIA, (zst (z_up v' 0 0 1) 1 (r 1)) 0 0) ∈ [(eIA, (1 : Int32)), (eUO, 2)]
      rw [zst_n (by decide), t00]
      exact List.mem_cons_self
