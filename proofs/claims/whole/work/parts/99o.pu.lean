/-! PURE, 64: atoms in step -/
theorem f_X11_atom_t (n : Nat) (u : zU) : f_X11_atom (n + 1) u = if (u 0 12) = (-1 : Int32) then (z_b2 (f_X11_place u) (fun r1 u2 => z_b2 (f_X11_has 35 u2) (fun t3 u4 => if (bI t3) = 0 then (z_b2 (f_X11_isSign (40 : Int32) u4) (fun t26 u27 => if t26 = true then (if (u27 0 13) = (6 : Int32) then (z_let (f_X11_wrong r1 u27) (fun u48 => some (false, u48))) else (z_let (z_up u27 0 13 ((u27 0 13) + (1 : Int32))) (fun u28 => if (bI t3) = 0 then (z_let (z_up u28 0 11 ((u28 0 11) + (1 : Int32))) (fun u29 => z_b2 (f_X11_some (f_X11_atom n) u29) (fun t30 u31 => if (u31 0 12) = (-1 : Int32) then (z_b2 (f_X11_isSign (41 : Int32) u31) (fun t35 u36 => if t35 = true then (z_let (z_up u36 0 11 ((u36 0 11) + (1 : Int32))) (fun u37 => z_let (z_up u37 0 13 ((u37 0 13) - (1 : Int32))) (fun u38 => (z_b01 (bI t30)).bind (fun t39 => some (t39, u38))))) else (z_let (f_X11_wrong (u36 0 11) u36) (fun u40 => z_let (z_up u40 0 11 ((u40 0 11) + (1 : Int32))) (fun u41 => z_let (z_up u41 0 13 ((u41 0 13) - (1 : Int32))) (fun u42 => (z_b01 (bI t30)).bind (fun t43 => some (t43, u42)))))))) else (z_let (z_up u31 0 11 ((u31 0 11) + (1 : Int32))) (fun u32 => z_let (z_up u32 0 13 ((u32 0 13) - (1 : Int32))) (fun u33 => (z_b01 (bI t30)).bind (fun t34 => some (t34, u33)))))))) else (z_b2 (f_X11_atom n u28) (fun t44 u45 => if t44 = true then (z_let (z_up u45 0 13 ((u45 0 13) - (1 : Int32))) (fun u46 => some (false, u46))) else (z_let (z_up u45 0 13 ((u45 0 13) - (1 : Int32))) (fun u47 => some (true, u47)))))))) else (z_b2 (f_X11_plain u27) (fun t49 u50 => some (t49, u50))))) else (if (u4 0 13) = (6 : Int32) then (z_let (f_X11_wrong r1 u4) (fun u25 => some (false, u25))) else (z_let (z_up u4 0 13 ((u4 0 13) + (1 : Int32))) (fun u5 => if (bI t3) = 0 then (z_let (z_up u5 0 11 ((u5 0 11) + (1 : Int32))) (fun u6 => z_b2 (f_X11_some (f_X11_atom n) u6) (fun t7 u8 => if (u8 0 12) = (-1 : Int32) then (z_b2 (f_X11_isSign (41 : Int32) u8) (fun t12 u13 => if t12 = true then (z_let (z_up u13 0 11 ((u13 0 11) + (1 : Int32))) (fun u14 => z_let (z_up u14 0 13 ((u14 0 13) - (1 : Int32))) (fun u15 => (z_b01 (bI t7)).bind (fun t16 => some (t16, u15))))) else (z_let (f_X11_wrong (u13 0 11) u13) (fun u17 => z_let (z_up u17 0 11 ((u17 0 11) + (1 : Int32))) (fun u18 => z_let (z_up u18 0 13 ((u18 0 13) - (1 : Int32))) (fun u19 => (z_b01 (bI t7)).bind (fun t20 => some (t20, u19)))))))) else (z_let (z_up u8 0 11 ((u8 0 11) + (1 : Int32))) (fun u9 => z_let (z_up u9 0 13 ((u9 0 13) - (1 : Int32))) (fun u10 => (z_b01 (bI t7)).bind (fun t11 => some (t11, u10)))))))) else (z_b2 (f_X11_atom n u5) (fun t21 u22 => if t21 = true then (z_let (z_up u22 0 13 ((u22 0 13) - (1 : Int32))) (fun u23 => some (false, u23))) else (z_let (z_up u22 0 13 ((u22 0 13) - (1 : Int32))) (fun u24 => some (true, u24))))))))))) else (some (false, u)) := rfl
def cCmp (r5 : Int32) (u6 : zU) : Option (Int32 × zU) := z_b2 (f_X8_takes 40 u6) (fun t7 u8 => if t7 = true then (z_b2 (f_X5_readSum u8) (fun r14 u15 => z_b2 (f_X5_node (3 : Int32) r5 r14 u15) (fun r16 u17 => some (r16, u17)))) else ((f_X8_must 41 u8).bind (fun u9 => z_b2 (f_X5_readSum u9) (fun r10 u11 => z_b2 (f_X5_node (4 : Int32) r5 r10 u11) (fun r12 u13 => some (r12, u13))))))
def cPl (u : zU) : Option (Int32 × zU) := z_b2 (f_X8_takes 38 u) (fun t1 u2 => if t1 = true then (z_b2 (f_X5_node (1 : Int32) (7 : Int32) (-1 : Int32) u2) (fun r20 u21 => some (r20, u21))) else (z_b2 (f_X8_takes 39 u2) (fun t3 u4 => if t3 = true then (z_b2 (f_X5_node (1 : Int32) (8 : Int32) (-1 : Int32) u4) (fun r18 u19 => some (r18, u19))) else (z_b2 (f_X5_readSum u4) (fun r5 u6 => cCmp r5 u6)))))
theorem f_X5_readAtom_t (n : Nat) (a1 : Int32) (u : zU) : f_X5_readAtom (n + 1) a1 u = if (6 : Int32) ≤ a1 then cPl u else (z_b2 (f_X8_takes 35 u) (fun t22 u23 => if t22 = true then (z_b2 (f_X5_readAtom n (a1 + (1 : Int32)) u23) (fun r50 u51 => z_b2 (f_X5_node (5 : Int32) r50 (-1 : Int32) u51) (fun r52 u53 => some (r52, u53)))) else (z_b2 (f_X8_takes 36 u23) (fun t24 u25 => if t24 = true then (z_b2 (f_X5_readCondition (f_X5_readAtom n) (a1 + (1 : Int32)) u25) (fun r47 u48 => (f_X8_must 37 u48).bind (fun u49 => some (r47, u49)))) else cPl u25)))) := rfl
def rCmp (r5 : Int32) (u6 : zU) : Option (Bool × zU) := if (u6 0 12) = (-1 : Int32) then (z_b2 (f_X11_isSign (60 : Int32) u6) (fun t7 u8 => if (bI t7) = 0 then (z_b2 (f_X11_isSign (62 : Int32) u8) (fun t12 u13 => if t12 = true then (z_let (z_up u13 0 11 ((u13 0 11) + (1 : Int32))) (fun u14 => z_b2 (f_X11_sum u14) (fun r15 u16 => if (bI t7) = 0 then (if r5 ≤ r15 then (some (false, u16)) else (some (true, u16))) else (if r15 ≤ r5 then (some (false, u16)) else (some (true, u16)))))) else (z_let (f_X11_wrong (u13 0 11) u13) (fun u17 => some (false, u17))))) else (z_let (z_up u8 0 11 ((u8 0 11) + (1 : Int32))) (fun u9 => z_b2 (f_X11_sum u9) (fun r10 u11 => if (bI t7) = 0 then (if r5 ≤ r10 then (some (false, u11)) else (some (true, u11))) else (if r10 ≤ r5 then (some (false, u11)) else (some (true, u11)))))))) else (some (false, u6))
theorem f_X11_plain_t (u : zU) : f_X11_plain u = z_b2 (f_X11_has 38 u) (fun t1 u2 => if t1 = true then (some (zbt (u2 0 15), u2)) else (z_b2 (f_X11_has 39 u2) (fun t3 u4 => if t3 = true then (some (zbt (u4 0 16), u4)) else (z_b2 (f_X11_sum u4) (fun r5 u6 => rCmp r5 u6))))) := rfl
theorem w35 : wok 35 := by unfold wok; decide +kernel
theorem w38 : wok 38 := by unfold wok; decide +kernel
theorem w39 : wok 39 := by unfold wok; decide +kernel
theorem FN.mu {t : Nat → Int32} {n a : Nat} {c : Int32} {u : zU} (h : FN t n u) (ha : sok a c) : f_X8_must a u = some u := h.1.mu (by rw [ha.1]; decide) (by rw [ha.1]; decide)
theorem FN.cmp {t : Nat → Int32} {n : Nat} {u : zU} (h : FN t n u) (r : Int32) : ∃ x u', cCmp r u = some (x, u') ∧ NFr u u' := by
  obtain ⟨x1, u1, e1, n1⟩ := h.sm
  obtain ⟨x2, u2, e2, n2⟩ := (h.k n1).nd 4 r x1
  refine ⟨x2, u2, ?_, n1.tr n2⟩
  unfold cCmp
  rw [h.ts s40, z_b2s, if_neg Bool.false_ne_true, h.mu s41, Option.bind_some, e1, z_b2s, e2, z_b2s]
theorem FN.pl {t : Nat → Int32} {n : Nat} {u : zU} (h : FN t n u) : ∃ x u', cPl u = some (x, u') ∧ NFr u u' := by
  obtain ⟨x1, u1, e1, n1⟩ := h.sm
  obtain ⟨x2, u2, e2, n2⟩ := (h.k n1).cmp x1
  refine ⟨x2, u2, ?_, n1.tr n2⟩
  unfold cPl
  rw [h.tw w38, z_b2s, if_neg Bool.false_ne_true, h.tw w39, z_b2s, if_neg Bool.false_ne_true, e1, z_b2s, e2]
theorem FN.at {t : Nat → Int32} {n : Nat} {u : zU} (h : FN t n u) (g : Nat) (a : Int32) : ∃ x u', f_X5_readAtom (g + 1) a u = some (x, u') ∧ NFr u u' := by
  obtain ⟨x, u', e, nf⟩ := h.pl
  refine ⟨x, u', ?_, nf⟩
  rw [f_X5_readAtom_t]
  by_cases q : (6 : Int32) ≤ a
  · rw [if_pos q, e]
  · rw [if_neg q, h.tw w35, z_b2s, if_neg Bool.false_ne_true, h.ts s36, z_b2s, if_neg Bool.false_ne_true, e]
theorem j_cmp2 {t : Nat → Int32} {n i p n0 k : Nat} {u v : zU} {y1 : Int32} {κ : Int32} (hκ : κ ≠ 0 ∧ κ ≠ 1) (h : OKs t n (i + 1) p u v) (hN : NDS u n0 k) (h0 : n0 < k) (hk : k ≤ i) (hy : EVu u (Fac v) n0 k (k - 1) = y1) : ∃ a y2 v', z_b2 (f_X5_readSum u) (fun r14 u15 => z_b2 (f_X5_node κ (nI (k - 1)) r14 u15) (fun r16 u17 => some (r16, u17))) = some a ∧ f_X11_sum v = some (y2, v') ∧ PO t n 0 n0 i k u v a.1 a.2 (opv κ y1 y2) v' := by
  have hn4 := h.1.1
  obtain ⟨a, b, e3, e4, o, kl, kr⟩ := j_sum h hN (by omega)
  obtain ⟨x2, u2⟩ := a
  obtain ⟨y2, v3⟩ := b
  rw [e3, z_b2s, e4]
  rcases o with ⟨i', p', k', b1, b2, b3, b4, b5, b6, b7, b8⟩ | ⟨f, fk⟩
  · have b7 : x2 = nI (k' - 1) := b7
    have b8 : EVu u2 (Fac v) n0 k' (k' - 1) = y2 := b8
    have hi' := b1.2.2.1.2.2
    obtain ⟨q1, q2, q3, q4, q5, q6⟩ := j_node b1 b2 (by omega) (a := κ) (b := nI (k - 1)) (c := nI (k' - 1)) (Or.inr (Or.inr ⟨⟨k - 1, by omega, by omega, rfl⟩, Or.inr ⟨k' - 1, by omega, by omega, rfl⟩⟩))
    rw [b7, q1, z_b2s]
    refine ⟨_, y2, v3, rfl, rfl, Or.inl ⟨i', p', k' + 1, q2, q3, by omega, by omega, by omega, b6.tr q4 b4, by rw [Nat.add_sub_cancel], ?_⟩, kl.tr q5, kr⟩
    rw [Nat.add_sub_cancel, q6]
    unfold wvN
    rw [if_neg hκ.1, if_neg hκ.2, chd_in (by omega) (by omega), chd_in (by omega) (by omega), hN.ev b6 b4 b2.2.2.1 (by omega) (by omega), hy, b8]
  · have fn := f.n fk
    obtain ⟨x3, u3, e5, nf⟩ := fn.nd κ (nI (k - 1)) x2
    rw [e5, z_b2s]
    exact ⟨_, y2, v3, rfl, rfl, Or.inr ⟨f.nf nf, nf.2⟩, kl.tr nf.l, kr⟩
theorem opv3 (a b : Int32) : ∃ c : Bool, opv 3 a b = bI c ∧ ∀ w : zU, (if b ≤ a then some (false, w) else some (true, w)) = some (c, w) := by
  by_cases h : b ≤ a
  · refine ⟨false, ?_, fun w => if_pos h⟩
    unfold opv; rw [if_neg (by decide), if_pos rfl, if_pos h]; rfl
  · refine ⟨true, ?_, fun w => if_neg h⟩
    unfold opv; rw [if_neg (by decide), if_pos rfl, if_neg h]; rfl
theorem opv4 (a b : Int32) : ∃ c : Bool, opv 4 a b = bI c ∧ ∀ w : zU, (if a ≤ b then some (false, w) else some (true, w)) = some (c, w) := by
  by_cases h : a ≤ b
  · refine ⟨false, ?_, fun w => if_pos h⟩
    unfold opv; rw [if_neg (by decide), if_neg (by decide), if_pos rfl, if_pos h]; rfl
  · refine ⟨true, ?_, fun w => if_neg h⟩
    unfold opv; rw [if_neg (by decide), if_neg (by decide), if_pos rfl, if_neg h]; rfl
theorem j_cmp {t : Nat → Int32} {n i p n0 k : Nat} {u v : zU} {y1 : Int32} (h : OKs t n i p u v) (hN : NDS u n0 k) (h0 : n0 < k) (hk : k ≤ i) (hy : EVu u (Fac v) n0 k (k - 1) = y1) : ∃ a b, cCmp (nI (k - 1)) u = some a ∧ rCmp y1 v = some b ∧ PO t n 0 n0 i k u v a.1 a.2 (bI b.1) b.2 := by
  obtain ⟨x, u1, v1, e1, e2, k1, k2, ht, hf⟩ := j_sign s40 h
  have kv : KR v v1 := by rw [k2]; exact KR.rf.up (Or.inl rfl) _
  unfold cCmp rCmp
  rw [e1, z_b2s, if_pos h.2.2.2.1, e2, z_b2s]
  cases x with
  | true =>
    obtain ⟨p1, h1⟩ := ht rfl
    have kv2 : KR v (z_up v1 0 11 (v1 0 11 + 1)) := kv.up (Or.inl rfl) _
    rw [if_pos rfl, if_neg (show ¬ bI true = 0 by decide), zl]
    generalize z_up v1 0 11 (v1 0 11 + 1) = v2 at h1 kv2
    obtain ⟨a, y2, v', e3, e4, o⟩ := j_cmp2 (κ := 3) (by decide) h1 (hN.kc k1) h0 hk (y1 := y1) (by rw [EVu_kc k1, kv2.fv]; exact hy)
    obtain ⟨c, c1, c2⟩ := opv3 y1 y2
    rw [e3, e4, z_b2s, if_neg (show ¬ bI true = 0 by decide), c2]
    rw [c1] at o
    exact ⟨_, _, rfl, rfl, o.tr (k1.nd k) (Nat.le_refl _) (Nat.le_refl _) k1.l kv2⟩
  | false =>
    obtain ⟨h1, rfl⟩ := hf rfl
    rw [if_neg Bool.false_ne_true, if_pos (show bI false = 0 from rfl)]
    obtain ⟨x, u2, v2, e3, e4, k3, k4, ht, hf⟩ := j_sign s41 h1
    have kv3 : KR v v2 := by rw [k4]; exact kv.up (Or.inl rfl) _
    rw [f_X8_must_e, e3, z_b2s, e4, z_b2s]
    cases x with
    | true =>
      obtain ⟨p1, h2⟩ := ht rfl
      have kv2 : KR v (z_up v2 0 11 (v2 0 11 + 1)) := kv3.up (Or.inl rfl) _
      rw [if_pos rfl, if_pos rfl, Option.bind_some, zl]
      generalize z_up v2 0 11 (v2 0 11 + 1) = v3 at h2 kv2
      obtain ⟨a, y2, v', e5, e6, o⟩ := j_cmp2 (κ := 4) (by decide) h2 (hN.kc k3) h0 hk (y1 := y1) (by rw [EVu_kc k3, kv2.fv]; exact hy)
      obtain ⟨c, c1, c2⟩ := opv4 y1 y2
      rw [e5, e6, z_b2s, if_pos (show bI false = 0 from rfl), c2]
      rw [c1] at o
      exact ⟨_, _, rfl, rfl, o.tr (k3.nd k) (Nat.le_refl _) (Nat.le_refl _) k3.l kv2⟩
    | false =>
      obtain ⟨h2, rfl⟩ := hf rfl
      obtain ⟨u3, e5, k5, f, k6⟩ := j_refuse h2 (skp_id h1.2.2.2.2.2.1)
      rw [if_neg Bool.false_ne_true, if_neg Bool.false_ne_true, e5, Option.bind_some, Option.bind_some, zl]
      have hN' := hN.kc k5
      have fn := f.n ⟨k, hN'.2.2.1, hN'.1⟩
      obtain ⟨x1, u4, e6, n1⟩ := fn.sm
      obtain ⟨x2, u5, e7, n2⟩ := (fn.k n1).nd 4 (nI (k - 1)) x1
      rw [e6, z_b2s, e7, z_b2s]
      exact ⟨_, _, rfl, rfl, Or.inr ⟨f.nf (n1.tr n2), n2.2⟩, k5.l.tr (n1.tr n2).l, kv3.tr k6⟩
theorem j_plain {t : Nat → Int32} {n i p n0 k : Nat} {u v : zU} (h : OKs t n i p u v) (hN : NDS u n0 k) (hk : k ≤ i) : ∃ a b, cPl u = some a ∧ f_X11_plain v = some b ∧ PO t n 0 n0 i k u v a.1 a.2 (bI b.1) b.2 := by
  have hn4 := h.1.1
  rw [f_X11_plain_t]
  unfold cPl
  refine j_alt w38 h _ (fun p' u' v' k1 k2 h1 => ?_) (fun p' v1 k2 _ q1 h1 => ?_)
  · obtain ⟨a, e1, e2⟩ := j_fact (j := 7) h1 (hN.kc k1) hk (by decide) (show Fac v' 7 = bI (zbt (v' 0 15)) from rfl)
    exact ⟨a, _, e1, rfl, e2.tr (k1.nd k) (Nat.le_refl _) (Nat.le_refl _) k1.l k2⟩
  have k2a := k2
  refine j_alt w39 h1 _ (fun p' u' v' k1 k2 h1 => ?_) (fun p' v1 k2 _ q1 h1 => ?_)
  · obtain ⟨a, e1, e2⟩ := j_fact (j := 8) h1 (hN.kc k1) hk (by decide) (show Fac v' 8 = bI (zbt (v' 0 16)) from rfl)
    exact ⟨a, _, e1, rfl, e2.tr (k1.nd k) (Nat.le_refl _) (Nat.le_refl _) k1.l (k2a.tr k2)⟩
  have k2a := k2a.tr k2
  obtain ⟨a, b, e3, e4, o, kl, kr⟩ := j_sum h1 hN hk
  obtain ⟨x2, u2⟩ := a
  obtain ⟨y2, v3⟩ := b
  rw [e3, z_b2s, e4, z_b2s]
  rcases o with ⟨i', p', k', b1, b2, b3, b4, b5, b6, b7, b8⟩ | ⟨f, fk⟩
  · have b7 : x2 = nI (k' - 1) := b7
    have b8 : EVu u2 (Fac v1) n0 k' (k' - 1) = y2 := b8
    obtain ⟨a, b, e5, e6, o⟩ := j_cmp (y1 := y2) b1 b2 b3 (by omega) (by rw [kr.fv]; exact b8)
    rw [b7]
    exact ⟨a, b, e5, e6, o.tr b6 b4 b5 kl (k2a.tr kr)⟩
  · have fn := f.n fk
    obtain ⟨x3, u3, e5, nf⟩ := fn.cmp x2
    refine ⟨_, (false, v3), e5, ?_, Or.inr ⟨f.nf nf, nf.2⟩, kl.tr nf.l, k2a.tr kr⟩
    unfold rCmp
    rw [if_neg f.r]
/-- where nothing stands that an atom could begin with, the class refuses -/
theorem cPl_bad {t : Nat → Int32} {n i p k : Nat} {u v : zU} (h : OKs t n i p u v) (hb : ∀ a, a ∈ [38, 39, 43, 25, 27, 19, 44, 45, 21] → hasB t n (skp t (n - p) p) a = false) (hv : f_X8_value u = some (-1)) {ur : zU} (er : f_X8_refuse u = some ur) (fn : FN t n ur) : ∃ x u', cPl u = some (x, u') ∧ NFr ur u' := by
  obtain ⟨x1, u1, e1, n1⟩ := fn.nd 1 (-1) (-1)
  obtain ⟨x2, u2, e2, n2⟩ := (fn.k n1).cmp x1
  refine ⟨x2, u2, ?_, n1.tr n2⟩
  have ep : f_X5_readPart u = some (x1, u1) := by
    rw [f_X5_readPart_t, hv, Option.bind_some, if_pos rfl, cW_bad h (fun a ha => hb a (List.mem_cons_of_mem _ (List.mem_cons_of_mem _ ha))) er, e1, z_b2s]
  have es : f_X5_readSum u = some (x1, u1) := by
    rw [f_X5_readSum_e, ep, z_b2s]
    exact (fn.k n1).s7 4999 x1 0
  unfold cPl
  rw [h.tkf w38 (hb 38 (by decide)), z_b2s, if_neg Bool.false_ne_true, h.tkf w39 (hb 39 (by decide)), z_b2s, if_neg Bool.false_ne_true, es, z_b2s, e2]
