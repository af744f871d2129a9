/-! PURE, 55: the fair's lines in step -/
theorem OKs.kk {t : Nat → Int32} {n i p : Nat} {u u' v v' : zU} (h : OKs t n i p u v) (k2 : u' 2 = u 2) (k3 : u' 3 = u 3) (k4 : u' 4 = u 4) (k5 : u' 5 = u 5) (r0 : v' 0 = v 0) (r5 : v' 5 = v 5) (r1 : ∀ k, k < 400 → v' 1 (305 + k) = v 1 (305 + k)) : OKs t n i p u' v' := by
  obtain ⟨h1, h2, h3, h6, h7, h8, h9⟩ := h
  exact ⟨h1.k k2 (by rw [k3]) k4 k5, h2.k (by rw [r0]) (by rw [r0]) r5 (Or.inr r1), by rw [k3]; exact h3, by rw [r0]; exact h6, by rw [r0]; exact h7, h8, h9⟩
def KF (u u' : zU) : Prop := ∀ r j, ¬ (r = 3 ∧ (j = 4 ∨ j = 5)) → ¬ (17 ≤ r ∧ r < 26) → u' r j = u r j
def KG (v v' : zU) : Prop := ∀ r j, ¬ (r = 0 ∧ (j = 11 ∨ j = 12)) → ¬ (r = 1 ∧ 3 ≤ j ∧ j < 65 ∧ j ≠ 11) → v' r j = v r j
theorem KC.f {u u' : zU} (h : KC u u') : KF u u' := fun r j a _ => h r j a
theorem KR.g {u u' : zU} (h : KR u u') : KG u u' := fun r j a _ => h r j a
theorem KF.tr {u u1 u2 : zU} (h : KF u u1) (k : KF u1 u2) : KF u u2 := fun r j a b => (k r j a b).trans (h r j a b)
theorem KG.tr {u u1 u2 : zU} (h : KG u u1) (k : KG u1 u2) : KG u u2 := fun r j a b => (k r j a b).trans (h r j a b)
theorem KF.of {u u' : zU} (h : ∀ r, ¬ (17 ≤ r ∧ r < 26) → u' r = u r) : KF u u' := fun r j _ b => by rw [h r b]
theorem KG.of {v : zU} {f : Nat → Int32} (h : ∀ j, ¬ (3 ≤ j ∧ j < 65 ∧ j ≠ 11) → f j = v 1 j) : KG v (zst v 1 f) := fun r j _ b => by
  by_cases e : r = 1
  · subst e; rw [zst_e]; exact h j (fun a => b ⟨rfl, a⟩)
  · rw [zst_n e]
/-- what a line of the fair leaves -/
def OUTF (t : Nat → Int32) (n i : Nat) (u v : zU) : Prop := (∃ i' p', i < i' ∧ OKs t n i' p' u v ∧ RW u 17 (v 1) ∧ IV (v 1) ∧ CAP (v 1)) ∨ FAs t n 0 u v
def cRt (L : Nat → Nat) (r2 r5 r8 : Int32) (u9 : zU) : Option zU := z_b2 (f_X8_takes 28 u9) (fun t10 u11 => if t10 = true then (z_b2 (f_X1_readOpenCradle L u11) (fun r13 u14 => if (u14 3 5) = (-1 : Int32) then ((f_X9_enlist 17 L r2 r5 r8 r13 u14).bind (fun u15 => some u15)) else (some u14))) else (if (u11 3 5) = (-1 : Int32) then ((f_X9_enlist 17 L r2 r5 r8 (-1 : Int32) u11).bind (fun u12 => some u12)) else (some u11)))
def rEn (r1 r3 r5 r23 : Int32) (u24 : zU) : Option zU := (z_let (u24 1 3) (fun z34 => (f_X11_put z34 (1 : Int32) r1 u24).bind (fun u35 => (f_X11_put z34 (2 : Int32) r3 u35).bind (fun u36 => (f_X11_put z34 (3 : Int32) r5 u36).bind (fun u37 => if r23 = (-1 : Int32) then ((f_X11_queues z34 u37).bind (fun u40 => z_let (z_up u40 1 3 ((u40 1 3) + (1 : Int32))) (fun u41 => some u41))) else ((f_X11_put z34 (0 : Int32) r23 u37).bind (fun u38 => z_let (z_up u38 1 3 ((u38 1 3) + (1 : Int32))) (fun u39 => some u39))))))))
def rEq (r1 r3 r5 : Int32) (u14 : zU) : Option zU := (z_let (u14 1 3) (fun z15 => (f_X11_put z15 (1 : Int32) r1 u14).bind (fun u16 => (f_X11_put z15 (2 : Int32) r3 u16).bind (fun u17 => (f_X11_put z15 (3 : Int32) r5 u17).bind (fun u18 => (f_X11_queues z15 u18).bind (fun u19 => z_let (z_up u19 1 3 ((u19 1 3) + (1 : Int32))) (fun u20 => some u20)))))))
def rRt (r1 r3 r5 : Int32) (u6 : zU) : Option zU := if (u6 0 12) = (-1 : Int32) then (z_b2 (f_X11_has 28 u6) (fun t13 u14 => if t13 = true then (z_b2 (f_X11_place u14) (fun r21 u22 => z_b2 (f_X11_figures (0 : Int32) (7 : Int32) u22) (fun r23 u24 => if (u24 0 12) = (-1 : Int32) then ((f_X11_hasRoom r23 u24).bind (fun t33 => if t33 = true then (if (u24 0 12) = (-1 : Int32) then (rEn r1 r3 r5 r23 u24) else (some u24)) else (z_let (f_X11_wrong r21 u24) (fun u42 => if (u42 0 12) = (-1 : Int32) then (rEn r1 r3 r5 r23 u42) else (some u42))))) else (if (u24 0 12) = (-1 : Int32) then (rEn r1 r3 r5 r23 u24) else (some u24))))) else (if (u14 0 12) = (-1 : Int32) then (rEq r1 r3 r5 u14) else (some u14)))) else (if (u6 0 12) = (-1 : Int32) then (rEq r1 r3 r5 u6) else (some u6))
theorem f_X1_readRider_t (L : Nat → Nat) (u : zU) : f_X1_readRider L u = (f_X8_must 25 u).bind (fun u1 => z_b2 (f_X8_number (1 : Int32) (9 : Int32) u1) (fun r2 u3 => (f_X8_must 26 u3).bind (fun u4 => z_b2 (f_X8_number (0 : Int32) (999 : Int32) u4) (fun r5 u6 => (f_X8_must 27 u6).bind (fun u7 => z_b2 (f_X8_number (0 : Int32) (3 : Int32) u7) (fun r8 u9 => cRt L r2 r5 r8 u9)))))) := rfl
theorem f_X11_riderLine_t (a1 : Int32) (u : zU) : f_X11_riderLine a1 u = if (u 1 3) = (8 : Int32) then (z_let (f_X11_wrong a1 u) (fun u51 => z_b2 (f_X11_after 25 (1 : Int32) (9 : Int32) u51) (fun r52 u53 => z_b2 (f_X11_after 26 (0 : Int32) (999 : Int32) u53) (fun r54 u55 => z_b2 (f_X11_after 27 (0 : Int32) (3 : Int32) u55) (fun r56 u57 => rRt r52 r54 r56 u57))))) else (z_b2 (f_X11_after 25 (1 : Int32) (9 : Int32) u) (fun r1 u2 => z_b2 (f_X11_after 26 (0 : Int32) (999 : Int32) u2) (fun r3 u4 => z_b2 (f_X11_after 27 (0 : Int32) (3 : Int32) u4) (fun r5 u6 => rRt r1 r3 r5 u6)))) := rfl
theorem w28 : wok 28 := by unfold wok; decide +kernel
theorem FAs.rr {t : Nat → Int32} {n e : Nat} {u v : zU} (f : FAs t n e u v) (L : Nat → Nat) (a b c x y z : Int32) : cRt L a b c u = some u ∧ rRt x y z v = some v := by
  constructor
  · unfold cRt
    rw [f.c.tk w28.2.1 w28.1, z_b2s, if_neg Bool.false_ne_true, if_neg f.c.2.2]
  · unfold rRt
    rw [if_neg f.r, if_neg f.r]
theorem sEc_o {v : Nat → Int32} {w p s c : Int32} {j : Nat} (hx : rN v < 8) (h : ¬ (3 ≤ j ∧ j < 65 ∧ j ≠ 11)) : sEc v w p s c j = v j := by
  unfold sEc
  rw [upd_ne (by omega), upd_ne (by omega), s3_o (by omega) (by omega) (by omega)]
theorem sEq_o {v : Nat → Int32} {w p s : Int32} {j : Nat} (hx : rN v < 8) (hw : wN v < 8) (h : ¬ (3 ≤ j ∧ j < 65 ∧ j ≠ 11)) : sEq v w p s j = v j := by
  unfold sEq
  have eW : wN (s3 v w p s) = wN v := by
    unfold wN
    rw [s3_o (by omega) (by omega) (by omega)]
  rw [upd_ne (by omega), sQ_o (by omega) (by omega) (by omega), s3_o (by omega) (by omega) (by omega)]
theorem sm_of {x : Int32} {m : Nat} (hm : m < 2 ^ 31) (h0 : (0 : Int32) ≤ x) (h : x ≤ nI m) : sm x m := by
  obtain ⟨j, j1, j2⟩ := nI_of (x := x) (Int32.not_lt.mpr h0)
  refine ⟨j, ?_, j2⟩
  rw [j2, nI_leI j1 hm] at h
  exact h
theorem j_rest {t : Nat → Int32} {n i p : Nat} {u v : zU} (h : OKs t n i p u v) (hR : RW u 17 (v 1)) (hV : IV (v 1)) (hC : CAP (v 1)) (hx : rN (v 1) < 8) (L : Nat → Nat) {a b c : Int32} (ha : sm a 9) (ha1 : 1 ≤ a) (hb : sm b 999) (hc : sm c 3) : ∃ u' v', cRt L a b c u = some u' ∧ rRt a b c v = some v' ∧ ((∃ i' p', i ≤ i' ∧ OKs t n i' p' u' v' ∧ RW u' 17 (v' 1) ∧ IV (v' 1) ∧ CAP (v' 1)) ∨ FAs t n 0 u' v') ∧ KF u u' ∧ KG v v' := by
  have h12 := h.2.2.2.1
  have hw8 : wN (v 1) < 8 := by have := hV.w8; omega
  obtain ⟨x, u1, v1, e1, e2, k1, k2, ht, hf⟩ := j_word w28 h
  have hv1 : v1 1 = v 1 := funext fun j => k2 1 j (by omega)
  have hR1 : RW u1 17 (v 1) := hR.fr (fun r a b => funext fun j => k1 r j (by omega))
  cases x with
  | false =>
    obtain ⟨h1, -, -⟩ := hf rfl
    obtain ⟨u2, e3, R2, k3⟩ := (pc_enlist hR1 hV hx L a b c).2
    refine ⟨u2, zst v1 1 (sEq (v 1) a b c), ?_, ?_, Or.inl ⟨i, _, Nat.le_refl _, h1.kk (k3 2 (by omega)) (k3 3 (by omega)) (k3 4 (by omega)) (k3 5 (by omega)) (zst_n (by decide)) (zst_n (by decide)) (fun k hk => by rw [zst_e, hv1, sEq_o hx hw8 (by omega)]), by rw [zst_e]; exact R2, by rw [zst_e]; exact (sEq_IV hV hx ha hb hc).1, by rw [zst_e]; exact sEq_CAP hV hC hx ha ha1 hb hc⟩, k1.f.tr (KF.of k3), k2.g.tr (KG.of (fun j hj => by rw [hv1]; exact sEq_o hx hw8 hj))⟩
    · unfold cRt
      rw [e1, z_b2s, if_neg Bool.false_ne_true, if_pos h1.2.2.1.1, e3, Option.bind_some]
    · unfold rRt
      rw [if_pos h12, e2, z_b2s, if_neg Bool.false_ne_true, if_pos h1.2.2.2.1]
      unfold rEq
      have hV1 : IV (v1 1) := by rw [hv1]; exact hV
      have hx1 : rN (v1 1) < 8 := by rw [hv1]; exact hx
      rw [pr_enl hV1 hx1 a b c (fun z15 u18 => (f_X11_queues z15 u18).bind (fun u19 => z_let (z_up u19 1 3 ((u19 1 3) + (1 : Int32))) (fun u20 => some u20)))]
      have := pr_enq hV1 hx1 ha hb hc
      rw [hv1] at this ⊢
      exact this
  | true =>
    obtain ⟨p1, h1⟩ := ht rfl
    have hp1 := h1.2.2.2.2.2.1
    have hpl := pr_place h1.2.1.r hp1 h1.2.2.2.2.1
    have h2 := h1.sk
    have hid := skp_id (t := t) hp1
    have k4 : KR v1 (z_up v1 0 11 (nI (skp t (n - p1) p1))) := KR.rf.up (Or.inl rfl) _
    generalize z_up v1 0 11 (nI (skp t (n - p1) p1)) = v2 at hpl h2 k4
    have hv2 : v2 1 = v 1 := (funext fun j => k4 1 j (by omega)).trans hv1
    generalize skp t (n - p1) p1 = b1 at hpl h2 hid
    obtain ⟨ur, er, kr, fr⟩ := j_ref h2
    rw [hid] at fr
    have hcr : ∀ y u3, f_X1_readOpenCradle L u1 = some (y, u3) → cRt L a b c u = if (u3 3 5) = (-1 : Int32) then ((f_X9_enlist 17 L a b c y u3).bind (fun u15 => some u15)) else (some u3) := fun y u3 e => by
      unfold cRt
      rw [e1, z_b2s, if_pos rfl, e, z_b2s]
    have hrr : ∀ y v3, f_X11_figures 0 7 v2 = some (y, v3) → rRt a b c v = if (v3 0 12) = (-1 : Int32) then ((f_X11_hasRoom y v3).bind (fun t33 => if t33 = true then (if (v3 0 12) = (-1 : Int32) then (rEn a b c y v3) else (some v3)) else (z_let (f_X11_wrong (nI b1) v3) (fun u42 => if (u42 0 12) = (-1 : Int32) then (rEn a b c y u42) else (some u42))))) else (if (v3 0 12) = (-1 : Int32) then (rEn a b c y v3) else (some v3)) := fun y v3 e => by
      unfold rRt
      rw [if_pos h12, e2, z_b2s, if_pos rfl, hpl, z_b2s, e, z_b2s]
    have hbad : ∀ y v3, f_X1_readOpenCradle L u1 = some (-1, ur) → f_X11_figures 0 7 v2 = some (y, v3) → KR v2 v3 → FAs t n 0 ur v3 → ∃ u' v', cRt L a b c u = some u' ∧ rRt a b c v = some v' ∧ ((∃ i' p', i ≤ i' ∧ OKs t n i' p' u' v' ∧ RW u' 17 (v' 1) ∧ IV (v' 1) ∧ CAP (v' 1)) ∨ FAs t n 0 u' v') ∧ KF u u' ∧ KG v v' := fun y v3 a1 a2 a3 a4 => by
      refine ⟨ur, v3, ?_, ?_, Or.inr a4, (k1.tr kr).f, ((k2.tr k4).tr a3).g⟩
      · rw [hcr _ _ a1, if_neg a4.c.2.2]
      · rw [hrr _ _ a2, if_neg a4.r, if_neg a4.r]
    rcases j_val h2 with ⟨m, v3, p3, hm, c1, c2, k5, h3, -, c3⟩ | ⟨c1, u', c2, k5, c3⟩
    · rw [hid] at c3
      have hv3 : v3 1 = v 1 := (funext fun j => k5 1 j (by omega)).trans hv2
      by_cases hm8 : m < 8
      · have hno : ¬ (nI m < 0 ∨ ¬ nI m ≤ 7) := by
          rintro (q | q)
          · exact nI_pos (by omega) q
          · exact q (nI_le (b := 7) (by omega) (by decide))
        have c4 : f_X11_figures 0 7 v2 = some (nI m, v3) := (c3 0 7).trans (if_neg hno)
        have hop : f_X9_isOpen 17 L (nI m) u1 = some (sOpen (v 1) m) := pc_isOpen hR1 hV L hm8
        have hro : f_X11_hasRoom (nI m) v3 = some (sOpen (v 1) m) := by rw [← hv3]; exact pr_hasRoom (by rw [hv3]; exact hV) hm8
        cases hO : sOpen (v 1) m with
        | true =>
          have hR2 : RW (z_up u1 3 4 (nI (i + 1 + 1))) 17 (v 1) := hR1.fr (fun r a b => z_up_ne (by omega))
          obtain ⟨u5, e5, R5, k6⟩ := (pc_enlist hR2 hV hx L a b c).1 m hm8
          have hlt : bcnt (Pin (v 1) (nI m)) (rN (v 1)) < 2 := by
            unfold sOpen at hO
            rw [Bool.and_eq_true] at hO
            exact of_decide_eq_true hO.2
          obtain ⟨q1, q2⟩ := sEc_IV hV hx ha hb hc hm8
          refine ⟨u5, zst v3 1 (sEc (v 1) a b c (nI m)), ?_, ?_, Or.inl ⟨i + 1 + 1, p3, by omega, h3.kk (k6 2 (by omega)) (k6 3 (by omega)) (k6 4 (by omega)) (k6 5 (by omega)) (zst_n (by decide)) (zst_n (by decide)) (fun k hk => by rw [zst_e, hv3, sEc_o hx (by omega)]), by rw [zst_e]; exact R5, by rw [zst_e]; exact q1, by rw [zst_e]; exact sEc_CAP hV hC hx ha ha1 hb hc (fun d hd e => by rw [nI_eq (by omega) (by omega)] at e; rw [← e]; exact hlt) q2⟩, (k1.f.tr (KC.rf.up (j := 4) (Or.inl rfl) _).f).tr (KF.of k6), ((k2.tr k4).tr k5).g.tr (KG.of (fun j hj => by rw [hv3]; exact sEc_o hx hj))⟩
          · have e6 : f_X1_readOpenCradle L u1 = some (nI m, z_up u1 3 4 (nI (i + 1 + 1))) := by
              rw [f_X1_readOpenCradle_e, c1, Option.bind_some, if_neg (nI_pos (by omega)), if_neg (pu_ge8 hm8), hop, Option.bind_some, hO, if_pos rfl, c2, zl]
            rw [hcr _ _ e6, if_pos h3.2.2.1.1, e5, Option.bind_some]
          · rw [hrr _ _ c4, if_pos h3.2.2.2.1, hro, Option.bind_some, hO, if_pos rfl, if_pos h3.2.2.2.1]
            unfold rEn
            have hV1 : IV (v3 1) := by rw [hv3]; exact hV
            have hx1 : rN (v3 1) < 8 := by rw [hv3]; exact hx
            rw [pr_enl hV1 hx1 a b c (fun z34 u37 => if nI m = (-1 : Int32) then ((f_X11_queues z34 u37).bind (fun u40 => z_let (z_up u40 1 3 ((u40 1 3) + (1 : Int32))) (fun u41 => some u41))) else ((f_X11_put z34 (0 : Int32) (nI m) u37).bind (fun u38 => z_let (z_up u38 1 3 ((u38 1 3) + (1 : Int32))) (fun u39 => some u39)))), if_neg (pu_m1 (by omega))]
            have := pr_enc hV1 hx1 a b c (nI m)
            rw [hv3] at this ⊢
            exact this
        | false =>
          have f := fr v3 p3 0 h3.2.1 h3.2.2.2.1 h3.2.2.2.2.1 (by have := h3.2.2.2.2.2.1; omega)
          refine ⟨ur, f_X11_wrong (nI b1) v3, ?_, ?_, Or.inr f, (k1.tr kr).f, (((k2.tr k4).tr k5).wr _).g⟩
          · have e6 : f_X1_readOpenCradle L u1 = some (-1, ur) := by
              rw [f_X1_readOpenCradle_e, c1, Option.bind_some, if_neg (nI_pos (by omega)), if_neg (pu_ge8 hm8), hop, Option.bind_some, hO, if_neg Bool.false_ne_true, er, Option.bind_some]
            rw [hcr _ _ e6, if_neg f.c.2.2]
          · rw [hrr _ _ c4, if_pos h3.2.2.2.1, hro, Option.bind_some, hO, if_neg Bool.false_ne_true, zl, if_neg f.r]
      · have hyes : nI m < 0 ∨ ¬ nI m ≤ 7 := Or.inr (nI_ge (a := 7) (by omega) (by omega))
        have f := fr v3 p3 0 h3.2.1 h3.2.2.2.1 h3.2.2.2.2.1 (by have := h3.2.2.2.2.2.1; omega)
        refine hbad _ _ ?_ ((c3 0 7).trans (if_pos hyes)) (k5.wr _) f
        rw [f_X1_readOpenCradle_e, c1, Option.bind_some, if_neg (nI_pos (by omega)), if_pos (show (8 : Int32) ≤ nI m from nI_le (a := 8) (by omega) (by omega)), er, Option.bind_some]
    · obtain ⟨y, v3, c4, k6, f⟩ := c3 0 7
      obtain rfl : u' = ur := by rw [c2] at er; exact Option.some.inj er
      refine hbad y v3 ?_ c4 k6 f
      rw [f_X1_readOpenCradle_e, c1, Option.bind_some, if_pos (by decide), c2, Option.bind_some]
theorem w25 : wok 25 := by unfold wok; decide +kernel
theorem w26 : wok 26 := by unfold wok; decide +kernel
theorem w27 : wok 27 := by unfold wok; decide +kernel
theorem j_rider {t : Nat → Int32} {n i p : Nat} {u v : zU} (h : OKs t n i p u v) (hR : RW u 17 (v 1)) (hV : IV (v 1)) (hC : CAP (v 1)) (hx : rN (v 1) < 8) (L : Nat → Nat) (bg : Int32) : ∃ u' v', f_X1_readRider L u = some u' ∧ f_X11_riderLine bg v = some v' ∧ OUTF t n i u' v' ∧ KF u u' ∧ KG v v' := by
  have h8 : ¬ v 1 3 = 8 := by
    rw [hV.n]; exact fun e => by have := (nI_eq (b := 8) (by omega) (by decide)).mp e; omega
  rw [f_X1_readRider_t, f_X11_riderLine_t, if_neg h8]
  obtain ⟨u1, x1, u2, y1, v2, e1, e2, e3, k1, k2, hx1, o1⟩ := j_after w25 (lo := 1) (hi := 9) (by decide) (by decide) h
  rw [e1, Option.bind_some, e2, z_b2s, e3, z_b2s]
  rcases o1 with ⟨p1, h1, rfl⟩ | f
  · obtain ⟨u3, x2, u4, y2, v4, e4, e5, e6, k3, k4, hx2, o2⟩ := j_after w26 (lo := 0) (hi := 999) (by decide) (by decide) h1
    rw [e4, Option.bind_some, e5, z_b2s, e6, z_b2s]
    rcases o2 with ⟨p2, h2, rfl⟩ | f
    · obtain ⟨u5, x3, u6, y3, v6, e7, e8, e9, k5, k6, hx3, o3⟩ := j_after w27 (lo := 0) (hi := 3) (by decide) (by decide) h2
      rw [e7, Option.bind_some, e8, z_b2s, e9, z_b2s]
      have kc := (k1.tr k3).tr k5
      have kr := (k2.tr k4).tr k6
      rcases o3 with ⟨p3, h3, rfl⟩ | f
      · have hv : v6 1 = v 1 := funext fun j => kr 1 j (by omega)
        obtain ⟨u', v', a1, a2, a3, a4, a5⟩ := j_rest h3 (by rw [hv]; exact hR.fr (fun r a b => funext fun j => kc r j (by omega))) (by rw [hv]; exact hV) (by rw [hv]; exact hC) (by rw [hv]; exact hx) L (a := x1) (b := x2) (c := x3) (sm_of (m := 9) (by decide) (by have := hx1.1; lia) hx1.2) hx1.1 (sm_of (m := 999) (by decide) hx2.1 hx2.2) (sm_of (m := 3) (by decide) hx3.1 hx3.2)
        refine ⟨u', v', a1, a2, ?_, kc.f.tr a4, kr.g.tr a5⟩
        rcases a3 with ⟨i', p', b1, b2⟩ | f
        · exact Or.inl ⟨i', p', by omega, b2⟩
        · exact Or.inr f
      · obtain ⟨a1, a2⟩ := f.rr L x1 x2 x3 x1 x2 y3
        exact ⟨_, _, a1, a2, Or.inr f, kc.f, kr.g⟩
    · obtain ⟨b1, b2, b3⟩ := f.af w27 (lo := 0) (hi := 3) (by decide)
      rw [b1, Option.bind_some, b2, z_b2s, b3, z_b2s]
      obtain ⟨a1, a2⟩ := f.rr L x1 x2 0 x1 y2 0
      exact ⟨_, _, a1, a2, Or.inr f, (k1.tr k3).f, (k2.tr k4).g⟩
  · obtain ⟨b1, b2, b3⟩ := f.af w26 (lo := 0) (hi := 999) (by decide)
    rw [b1, Option.bind_some, b2, z_b2s, b3, z_b2s]
    obtain ⟨b1, b2, b3⟩ := f.af w27 (lo := 0) (hi := 3) (by decide)
    rw [b1, Option.bind_some, b2, z_b2s, b3, z_b2s]
    obtain ⟨a1, a2⟩ := f.rr L x1 0 0 y1 0 0
    exact ⟨_, _, a1, a2, Or.inr f, k1.f, k2.g⟩
