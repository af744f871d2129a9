/-! PURE, 56: a line of the fair -/
theorem j_alt {α β : Type} {t : Nat → Int32} {n i p a : Nat} {u v : zU} {A B : zU → Option α} {C D : zU → Option β} (ha : wok a) (h : OKs t n i p u v) (P : α → β → Prop)
    (h1 : ∀ p' u' v', KC u u' → KR v v' → OKs t n (i + 1) p' u' v' → ∃ x y, A u' = some x ∧ C v' = some y ∧ P x y)
    (h2 : ∀ p' v', KR v v' → p' = skp t (n - p) p → skp t (n - p') p' = p' → OKs t n i p' u v' → ∃ x y, B u = some x ∧ D v' = some y ∧ P x y) :
    ∃ x y, z_b2 (f_X8_takes a u) (fun t1 u2 => if t1 = true then A u2 else B u2) = some x ∧ z_b2 (f_X11_has a v) (fun t1 u2 => if t1 = true then C u2 else D u2) = some y ∧ P x y := by
  obtain ⟨x, u1, v1, e1, e2, k1, k2, ht, hf⟩ := j_word ha h
  rw [e1, e2, z_b2s, z_b2s]
  cases x with
  | true =>
    obtain ⟨p', h3⟩ := ht rfl
    rw [if_pos rfl, if_pos rfl]
    exact h1 p' u1 v1 k1 k2 h3
  | false =>
    obtain ⟨h3, rfl, -⟩ := hf rfl
    rw [if_neg Bool.false_ne_true, if_neg Bool.false_ne_true]
    exact h2 _ v1 k2 rfl (skp_id h.2.2.2.2.2.1) h3
theorem OKs.tkf {t : Nat → Int32} {n i p a : Nat} {u v : zU} (h : OKs t n i p u v) (ha : wok a) (hB : hasB t n (skp t (n - p) p) a = false) : f_X8_takes a u = some (false, u) := by
  obtain ⟨x, u1, v1, e1, e2, k1, k2, ht, hf⟩ := j_word ha h
  have hr := pr_has (a := a) ha.1 h.2.1.r h.2.2.2.2.2.1 h.2.2.2.2.1
  rw [hB] at hr
  rw [hr] at e2
  injection e2 with e2
  injection e2 with e2 _
  subst e2
  obtain ⟨-, rfl, -⟩ := hf rfl
  exact e1
theorem bal_at {P : Nat → Bool} : ∀ d k j, bal P d k = true → k ≤ j → j < k + d → P j = true
  | 0, k, j, _, h1, h2 => by omega
  | d + 1, k, j, h, h1, h2 => by
    have h : (P k && bal P d (k + 1)) = true := h
    rw [Bool.and_eq_true] at h
    by_cases e : j = k
    · rw [e]; exact h.1
    · exact bal_at d (k + 1) j h.2 (by omega) (by omega)
theorem hasB_ne {t : Nat → Int32} {n b a a' : Nat} (h : hasB t n b a = true) (k : Nat) (hd : sLen.getD a 0 ≠ sLen.getD a' 0 ∨ (k < sLen.getD a 0 ∧ sCh a k ≠ sCh a' k)) : hasB t n b a' = false := by
  cases h' : hasB t n b a' with
  | false => rfl
  | true =>
    exfalso
    unfold hasB at h h'
    rw [Bool.and_eq_true, decide_eq_true_eq] at h h'
    rcases hd with q | ⟨q1, q2⟩
    · exact q (h.1.symm.trans h'.1)
    · have a1 := bal_at _ 0 k h.2 (by omega) (by omega)
      have a2 := bal_at _ 0 k h'.2 (by omega) (by rw [← h'.1, h.1]; omega)
      rw [decide_eq_true_eq] at a1 a2
      exact q2 (a1.symm.trans a2)
theorem j_tells {t : Nat → Int32} {n i p : Nat} {u v : zU} {lo hi : Int32} (hlo : (-1 : Int32) < lo) (hlh : lo ≤ hi) {k a : Nat} (hk : kap k = some (0, a)) (hk4 : 4 ≤ k ∧ k ≤ 8) (hIV : ∀ x v, lo ≤ x → x ≤ hi → IV v → IV (upd v k x)) (h : OKs t n i p u v) (hR : RW u 17 (v 1)) (hV : IV (v 1)) (hC : CAP (v 1)) : ∃ x y, z_b2 (f_X8_number lo hi u) (fun r1 u2 => z_let (z_up u2 17 a r1) (fun u3 => some u3)) = some x ∧ (f_X11_tells (nI k) lo hi v).bind (fun u22 => some u22) = some y ∧ OUTF t n i x y ∧ KF u x ∧ KG v y := by
  obtain ⟨x, u1, y, v1, e1, e2, k1, k2, hx, ho⟩ := j_num h hlo hlh
  have kf : KF u (z_up u1 17 a x) := k1.f.tr (KF.of (fun r hr => z_up_ne (by omega)))
  rw [e1, z_b2s, zl, f_X11_tells_e, e2, z_b2s]
  rcases ho with ⟨p', h1, rfl⟩ | f
  · have hv1 : v1 1 = v 1 := funext fun j => k2 1 j (by omega)
    have hR1 : RW u1 17 (v 1) := hR.fr (fun r a b => funext fun j => k1 r j (by omega))
    rw [if_pos h1.2.2.2.1, if_pos (pu_in (show k < 705 by omega) (by decide)), zl, Option.bind_some, nI_clamp (by omega), z_up_st v1, hv1]
    refine ⟨_, _, rfl, rfl, Or.inl ⟨i + 1, p', by omega, h1.kk (z_up_ne (by decide)) (z_up_ne (by decide)) (z_up_ne (by decide)) (z_up_ne (by decide)) (zst_n (by decide)) (zst_n (by decide)) (fun j hj => by rw [zst_e, upd_ne (by omega), hv1]), ?_, ?_, ?_⟩, kf, k2.g.tr (KG.of (fun j hj => by rw [upd_ne (by omega), hv1]))⟩
    · rw [zst_e]; exact hR1.up hk x
    · rw [zst_e]; exact hIV x _ hx.1 hx.2 hV
    · rw [zst_e]; exact hC.ex (rN_of (upd_ne (by omega))) (fun r _ => ⟨upd_ne (by omega), upd_ne (by omega)⟩)
  · rw [if_neg f.r, Option.bind_some]
    exact ⟨_, _, rfl, rfl, Or.inr (f.kk (z_up_ne (by decide)) (z_up_ne (by decide)) (z_up_ne (by decide)) (z_up_ne (by decide))), kf, k2.g⟩
theorem j_bolts {t : Nat → Int32} {n i p : Nat} {u v : zU} (h : OKs t n i p u v) (hR : RW u 17 (v 1)) (hV : IV (v 1)) (hC : CAP (v 1)) : ∃ x y, z_b2 (f_X8_number (0 : Int32) (7 : Int32) u) (fun r29 u30 => z_b2 (f_X8_number (0 : Int32) (9 : Int32) u30) (fun r31 u32 => if z_in (r29 &&& (7 : Int32)) 8 = true then (z_let (z_up u32 23 (r29 &&& (7 : Int32)).toNatClampNeg r31) (fun u33 => some u33)) else none)) = some x ∧ (f_X11_boltsLine v).bind (fun u23 => some u23) = some y ∧ OUTF t n i x y ∧ KF u x ∧ KG v y := by
  obtain ⟨x, u1, y, v1, e1, e2, k1, k2, hx, ho⟩ := j_num h (lo := 0) (hi := 7) (by decide) (by decide)
  obtain ⟨c, hc, rfl⟩ := sm_of (m := 7) (by decide) hx.1 hx.2
  have hc8 : c < 8 := by omega
  have hcl : ∀ w, (if z_in (nI c &&& (7 : Int32)) 8 = true then (z_let (z_up w 23 (nI c &&& (7 : Int32)).toNatClampNeg 0) (fun u33 => some u33)) else none) = some (z_up w 23 c 0) := fun w => by rw [pu_and7 c hc8, if_pos (pu_in hc8 (by decide)), zl, nI_clamp (by omega)]
  rw [e1, z_b2s, f_X11_boltsLine_e, e2, z_b2s]
  rcases ho with ⟨p1, h1, rfl⟩ | f
  · obtain ⟨x2, u2, y2, v2, e3, e4, k3, k4, hx2, ho⟩ := j_num h1 (lo := 0) (hi := 9) (by decide) (by decide)
    rw [e3, z_b2s, e4, z_b2s, pu_and7 c hc8, if_pos (pu_in hc8 (by decide)), zl, nI_clamp (by omega)]
    have kc := k1.tr k3
    have kr := k2.tr k4
    have kf : KF u (z_up u2 23 c x2) := kc.f.tr (KF.of (fun r hr => z_up_ne (by omega)))
    rcases ho with ⟨p2, h2, rfl⟩ | f
    · have hv1 : v2 1 = v 1 := funext fun j => kr 1 j (by omega)
      have hR1 : RW u2 17 (v 1) := hR.fr (fun r a b => funext fun j => kc r j (by omega))
      rw [if_pos h2.2.2.2.1, pu_l17, if_pos (pu_in (show 17 + c < 705 by omega) (by decide)), zl, Option.bind_some, nI_clamp (by omega), z_up_st v2, hv1]
      refine ⟨_, _, rfl, rfl, Or.inl ⟨i + 1 + 1, p2, by omega, h2.kk (z_up_ne (by decide)) (z_up_ne (by decide)) (z_up_ne (by decide)) (z_up_ne (by decide)) (zst_n (by decide)) (zst_n (by decide)) (fun j hj => by rw [zst_e, upd_ne (by omega), hv1]), ?_, ?_, ?_⟩, kf, kr.g.tr (KG.of (fun j hj => by rw [upd_ne (by omega), hv1]))⟩
      · rw [zst_e]; exact hR1.up (kap_1 c hc8).2.2.2.2.2 x2
      · rw [zst_e]
        exact (hV.u (k := 17 + c) (y := x2) (by omega) (fun r _ => by omega) ⟨fun r _ e => by omega, fun r _ e => by omega, fun r _ e => by omega, fun r _ _ => sm_of (m := 9) (by decide) hx2.1 hx2.2, fun e => by omega, fun e => by omega, fun e => by omega, fun e => by omega, fun e => by omega⟩).1
      · rw [zst_e]; exact hC.ex (rN_of (upd_ne (by omega))) (fun r _ => ⟨upd_ne (by omega), upd_ne (by omega)⟩)
    · rw [if_neg f.r, Option.bind_some]
      exact ⟨_, _, rfl, rfl, Or.inr (f.kk (z_up_ne (by decide)) (z_up_ne (by decide)) (z_up_ne (by decide)) (z_up_ne (by decide))), kf, kr.g⟩
  · rw [f.c.nu (by decide), z_b2s, f.fg, z_b2s, hcl, if_neg f.r, Option.bind_some]
    exact ⟨_, _, rfl, rfl, Or.inr (f.kk (z_up_ne (by decide)) (z_up_ne (by decide)) (z_up_ne (by decide)) (z_up_ne (by decide))), k1.f.tr (KF.of (fun r hr => z_up_ne (by omega))), k2.g⟩
theorem w18 : wok 18 := by unfold wok; decide +kernel
theorem w19 : wok 19 := by unfold wok; decide +kernel
theorem w20 : wok 20 := by unfold wok; decide +kernel
theorem w21 : wok 21 := by unfold wok; decide +kernel
theorem w22 : wok 22 := by unfold wok; decide +kernel
theorem w23 : wok 23 := by unfold wok; decide +kernel
theorem w24 : wok 24 := by unfold wok; decide +kernel
def cTlF (u : zU) : Option zU := (z_b2 (f_X8_takes 19 u) (fun t1 u2 => if t1 = true then (z_b2 (f_X8_number (0 : Int32) (7 : Int32) u2) (fun r29 u30 => z_b2 (f_X8_number (0 : Int32) (9 : Int32) u30) (fun r31 u32 => if z_in (r29 &&& (7 : Int32)) 8 = true then (z_let (z_up u32 23 (r29 &&& (7 : Int32)).toNatClampNeg r31) (fun u33 => some u33)) else none))) else (z_b2 (f_X8_takes 20 u2) (fun t3 u4 => if t3 = true then (z_b2 (f_X8_number (0 : Int32) (99 : Int32) u4) (fun r26 u27 => z_let (z_up u27 17 10 r26) (fun u28 => some u28))) else (z_b2 (f_X8_takes 21 u4) (fun t5 u6 => if t5 = true then (z_b2 (f_X8_number (0 : Int32) (999 : Int32) u6) (fun r23 u24 => z_let (z_up u24 17 11 r23) (fun u25 => some u25))) else (z_b2 (f_X8_takes 22 u6) (fun t7 u8 => if t7 = true then (z_b2 (f_X8_number (1 : Int32) (8 : Int32) u8) (fun r20 u21 => z_let (z_up u21 17 12 r20) (fun u22 => some u22))) else (z_b2 (f_X8_takes 23 u8) (fun t9 u10 => if t9 = true then (z_b2 (f_X8_number (0 : Int32) (100 : Int32) u10) (fun r17 u18 => z_let (z_up u18 17 13 r17) (fun u19 => some u19))) else (z_b2 (f_X8_takes 24 u10) (fun t11 u12 => if t11 = true then (z_b2 (f_X8_number (0 : Int32) (7 : Int32) u12) (fun r14 u15 => z_let (z_up u15 17 14 r14) (fun u16 => some u16))) else ((f_X8_refuse u12).bind (fun u13 => some u13))))))))))))))
def rTlF (u4 : zU) : Option zU := (z_b2 (f_X11_has 19 u4) (fun t5 u6 => if t5 = true then ((f_X11_boltsLine u6).bind (fun u23 => some u23)) else (z_b2 (f_X11_has 20 u6) (fun t7 u8 => if t7 = true then ((f_X11_tells (5 : Int32) (0 : Int32) (99 : Int32) u8).bind (fun u22 => some u22)) else (z_b2 (f_X11_has 21 u8) (fun t9 u10 => if t9 = true then ((f_X11_tells (6 : Int32) (0 : Int32) (999 : Int32) u10).bind (fun u21 => some u21)) else (z_b2 (f_X11_has 22 u10) (fun t11 u12 => if t11 = true then ((f_X11_tells (7 : Int32) (1 : Int32) (8 : Int32) u12).bind (fun u20 => some u20)) else (z_b2 (f_X11_has 23 u12) (fun t13 u14 => if t13 = true then ((f_X11_tells (8 : Int32) (0 : Int32) (100 : Int32) u14).bind (fun u19 => some u19)) else (z_b2 (f_X11_has 24 u14) (fun t15 u16 => if t15 = true then ((f_X11_tells (4 : Int32) (0 : Int32) (7 : Int32) u16).bind (fun u18 => some u18)) else (z_let (f_X11_wrong (u16 0 11) u16) (fun u17 => some u17))))))))))))))
theorem f_X1_readLine_t (L : Nat → Nat) (u : zU) : f_X1_readLine L u = if (8 : Int32) ≤ (u 17 8) then cTlF u else (z_b2 (f_X8_takes 18 u) (fun t34 u35 => if t34 = true then ((f_X1_readRider L u35).bind (fun u69 => some u69)) else cTlF u35)) := rfl
theorem f_X11_fairLine_t (u : zU) : f_X11_fairLine u = z_b2 (f_X11_place u) (fun r1 u2 => z_b2 (f_X11_has 18 u2) (fun t3 u4 => if t3 = true then ((f_X11_riderLine r1 u4).bind (fun u24 => some u24)) else rTlF u4)) := rfl
theorem nomk {k : Nat} {y : Int32} (h1 : k = 5 → sm y 99) (h2 : k = 6 → sm y 9999) (h3 : k = 7 → ∃ j, 1 ≤ j ∧ j ≤ 8 ∧ y = nI j) (h4 : k = 8 → sm y 100) (hk : 5 ≤ k ∧ k ≤ 8) : okb k y :=
  ⟨fun r _ e => by omega, fun r _ e => by omega, fun r _ e => by omega, fun r _ e => by omega, h1, h2, h3, h4, fun e => by omega⟩
theorem j_tail {t : Nat → Int32} {n i p : Nat} {u v : zU} (h : OKs t n i p u v) (hR : RW u 17 (v 1)) (hV : IV (v 1)) (hC : CAP (v 1)) : ∃ x y, cTlF u = some x ∧ rTlF v = some y ∧ OUTF t n i x y ∧ KF u x ∧ KG v y := by
  have hst : ∀ {u' v' : zU}, KC u u' → KR v v' → RW u' 17 (v' 1) ∧ IV (v' 1) ∧ CAP (v' 1) := fun k1 k2 => by
    rw [show _ = v 1 from funext fun j => k2 1 j (by omega)]
    exact ⟨hR.fr (fun r a b => funext fun j => k1 r j (by omega)), hV, hC⟩
  have hfin : ∀ {u' v' x y : zU}, KC u u' → KR v v' → OUTF t n (i + 1) x y ∧ KF u' x ∧ KG v' y → OUTF t n i x y ∧ KF u x ∧ KG v y := fun k1 k2 ⟨o, a, b⟩ => ⟨o.imp (fun ⟨i', p', c, d⟩ => ⟨i', p', by omega, d⟩) id, k1.f.tr a, k2.g.tr b⟩
  have hT : ∀ {q : Nat} {u' v' : zU} {lo hi : Int32} {k a : Nat}, KC u u' → KR v v' → OKs t n (i + 1) q u' v' → (-1 : Int32) < lo → lo ≤ hi → kap k = some (0, a) → 4 ≤ k ∧ k ≤ 8 → (∀ x v, lo ≤ x → x ≤ hi → IV v → IV (upd v k x)) → ∃ x y, z_b2 (f_X8_number lo hi u') (fun r1 u2 => z_let (z_up u2 17 a r1) (fun u3 => some u3)) = some x ∧ (f_X11_tells (nI k) lo hi v').bind (fun u22 => some u22) = some y ∧ OUTF t n i x y ∧ KF u x ∧ KG v y := fun k1 k2 h1 c1 c2 c3 c4 c5 => by
    obtain ⟨a1, a2, a3⟩ := hst k1 k2
    obtain ⟨x, y, e1, e2, e3⟩ := j_tells c1 c2 c3 c4 c5 h1 a1 a2 a3
    exact ⟨x, y, e1, e2, hfin k1 k2 e3⟩
  unfold cTlF rTlF
  refine j_alt w19 h _ (fun p' u' v' k1 k2 h1 => ?_) (fun p' v1 k2 _ q1 h1 => ?_)
  · obtain ⟨a1, a2, a3⟩ := hst k1 k2
    obtain ⟨x, y, e1, e2, e3⟩ := j_bolts h1 a1 a2 a3
    exact ⟨x, y, e1, e2, hfin k1 k2 e3⟩
  have k2a := k2
  refine j_alt w20 h1 _ (fun p' u' v' k1 k2 h1 => ?_) (fun p' v1 k2 _ q1 h1 => ?_)
  · exact hT (k := 5) k1 (k2a.tr k2) h1 (by decide) (by decide) rfl (by decide) (fun x w a b c => (c.u (by decide) (fun r _ => by omega) (nomk (fun _ => sm_of (m := 99) (by decide) a b) (fun e => by omega) (fun e => by omega) (fun e => by omega) (by decide))).1)
  have k2a := k2a.tr k2
  refine j_alt w21 h1 _ (fun p' u' v' k1 k2 h1 => ?_) (fun p' v1 k2 _ q1 h1 => ?_)
  · exact hT (k := 6) k1 (k2a.tr k2) h1 (by decide) (by decide) rfl (by decide) (fun x w a b c => (c.u (by decide) (fun r _ => by omega) (nomk (fun e => by omega) (fun _ => by obtain ⟨j, j1, j2⟩ := sm_of (m := 999) (by decide) a b; exact ⟨j, by omega, j2⟩) (fun e => by omega) (fun e => by omega) (by decide))).1)
  have k2a := k2a.tr k2
  refine j_alt w22 h1 _ (fun p' u' v' k1 k2 h1 => ?_) (fun p' v1 k2 _ q1 h1 => ?_)
  · exact hT (k := 7) k1 (k2a.tr k2) h1 (by decide) (by decide) rfl (by decide) (fun x w a b c => (c.u (by decide) (fun r _ => by omega) (nomk (fun e => by omega) (fun e => by omega) (fun _ => by
      obtain ⟨j, j1, j2⟩ := sm_of (x := x) (m := 8) (by decide) (by lia) b
      refine ⟨j, ?_, j1, j2⟩
      rw [j2] at a
      have := (nI_leI (a := 1) (by decide) (by omega)).mp a
      exact this) (fun e => by omega) (by decide))).1)
  have k2a := k2a.tr k2
  refine j_alt w23 h1 _ (fun p' u' v' k1 k2 h1 => ?_) (fun p' v1 k2 _ q1 h1 => ?_)
  · exact hT (k := 8) k1 (k2a.tr k2) h1 (by decide) (by decide) rfl (by decide) (fun x w a b c => (c.u (by decide) (fun r _ => by omega) (nomk (fun e => by omega) (fun e => by omega) (fun e => by omega) (fun _ => sm_of (m := 100) (by decide) a b) (by decide))).1)
  have k2a := k2a.tr k2
  refine j_alt w24 h1 _ (fun p' u' v' k1 k2 h1 => ?_) (fun p' v1 k2 _ q1 h1 => ?_)
  · exact hT (k := 4) k1 (k2a.tr k2) h1 (by decide) (by decide) rfl (by decide) (fun x w a b c => by
      obtain ⟨j, j1, rfl⟩ := sm_of (m := 7) (by decide) a b
      exact (c.ut (by omega)).1)
  have k2a := k2a.tr k2
  obtain ⟨u', e1, k3, f, k4⟩ := j_refuse h1 q1
  exact ⟨u', _, by rw [e1, Option.bind_some], by rw [zl], Or.inr f, k3.f, (k2a.tr k4).g⟩
theorem j_line {t : Nat → Int32} {n i p : Nat} {u v : zU} (h : OKs t n i p u v) (hR : RW u 17 (v 1)) (hV : IV (v 1)) (hC : CAP (v 1)) (L : Nat → Nat) : ∃ x y, f_X1_readLine L u = some x ∧ f_X11_fairLine v = some y ∧ OUTF t n i x y ∧ KF u x ∧ KG v y := by
  have h8 := hV.n8
  have hp := h.2.2.2.2.2.1
  have h2 := h.sk
  have hid := skp_id (t := t) hp
  have k4 : KR v (z_up v 0 11 (nI (skp t (n - p) p))) := KR.rf.up (Or.inl rfl) _
  rw [f_X1_readLine_t, f_X11_fairLine_t, pr_place h.2.1.r hp h.2.2.2.2.1, z_b2s, hR.s8, hV.n]
  generalize z_up v 0 11 (nI (skp t (n - p) p)) = v1 at h2 k4 ⊢
  generalize skp t (n - p) p = b at h2 hid ⊢
  have hv1 : v1 1 = v 1 := funext fun j => k4 1 j (by omega)
  by_cases hx : rN (v 1) < 8
  · rw [if_neg (pu_ge8 hx)]
    refine j_alt w18 h2 _ (fun p' u' v' k1 k2 h1 => ?_) (fun p' v2 k2 _ q1 h1 => ?_)
    · have hv2 : v' 1 = v 1 := (funext fun j => k2 1 j (by omega)).trans hv1
      obtain ⟨x, y, e1, e2, o, a1, a2⟩ := j_rider h1 (by rw [hv2]; exact hR.fr (fun r a b => funext fun j => k1 r j (by omega))) (by rw [hv2]; exact hV) (by rw [hv2]; exact hC) (by rw [hv2]; exact hx) L (nI b)
      exact ⟨x, y, by rw [e1, Option.bind_some], by rw [e2, Option.bind_some], o.imp (fun ⟨i', p', c, d⟩ => ⟨i', p', by omega, d⟩) id, k1.f.tr a1, (k4.tr k2).g.tr a2⟩
    · have hv2 : v2 1 = v 1 := (funext fun j => k2 1 j (by omega)).trans hv1
      obtain ⟨x, y, e1, e2, o, a1, a2⟩ := j_tail h1 (by rw [hv2]; exact hR) (by rw [hv2]; exact hV) (by rw [hv2]; exact hC)
      exact ⟨x, y, e1, e2, o, a1, (k4.tr k2).g.tr a2⟩
  · have e8 : rN (v 1) = 8 := by omega
    rw [e8, if_pos pu_le8]
    have hr := pr_has (a := 18) w18.1 h2.2.1.r h2.2.2.2.2.2.1 h2.2.2.2.2.1
    obtain ⟨x, u1, v2, e1, e2, k1, k2, ht, hf⟩ := j_word w18 h2
    rw [e2, z_b2s]
    have hv2 : v2 1 = v 1 := (funext fun j => k2 1 j (by omega)).trans hv1
    cases x with
    | false =>
      obtain ⟨h1, rfl, -⟩ := hf rfl
      rw [if_neg Bool.false_ne_true]
      obtain ⟨x, y, e1, e2, o, a1, a2⟩ := j_tail h1 (by rw [hv2]; exact hR) (by rw [hv2]; exact hV) (by rw [hv2]; exact hC)
      exact ⟨x, y, e1, e2, o, a1, (k4.tr k2).g.tr a2⟩
    | true =>
      obtain ⟨p', h1⟩ := ht rfl
      rw [e2] at hr
      injection hr with hr
      injection hr with hr _
      have hB := hr.symm
      have f19 := h2.tkf w19 (hasB_ne hB 0 (by decide +kernel))
      have f20 := h2.tkf w20 (hasB_ne hB 0 (by decide +kernel))
      have f21 := h2.tkf w21 (hasB_ne hB 0 (by decide +kernel))
      have f22 := h2.tkf w22 (hasB_ne hB 1 (by decide +kernel))
      have f23 := h2.tkf w23 (hasB_ne hB 0 (by decide +kernel))
      have f24 := h2.tkf w24 (hasB_ne hB 0 (by decide +kernel))
      obtain ⟨ur, er, kr, fr⟩ := j_ref h2
      rw [hid] at fr
      have f := fr v2 p' 0 h1.2.1 h1.2.2.2.1 h1.2.2.2.2.1 (by have := h1.2.2.2.2.2.1; omega)
      refine ⟨ur, f_X11_wrong (nI b) v2, ?_, ?_, Or.inr f, kr.f, ((k4.tr k2).wr _).g⟩
      · unfold cTlF
        rw [f19, z_b2s, if_neg Bool.false_ne_true, f20, z_b2s, if_neg Bool.false_ne_true, f21, z_b2s, if_neg Bool.false_ne_true, f22, z_b2s, if_neg Bool.false_ne_true, f23, z_b2s, if_neg Bool.false_ne_true, f24, z_b2s, if_neg Bool.false_ne_true, er, Option.bind_some]
      · rw [if_pos rfl, f_X11_riderLine_t, hv2, hV.n, e8, if_pos (by decide), zl, (f.af w25 (lo := 1) (hi := 9) (by decide)).2.2, z_b2s, (f.af w26 (lo := 0) (hi := 999) (by decide)).2.2, z_b2s, (f.af w27 (lo := 0) (hi := 3) (by decide)).2.2, z_b2s, (f.rr L 0 0 0 0 0 0).2, Option.bind_some]
