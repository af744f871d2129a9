/-! PURE, 57: lines with ; between them -/
def rcFin (u : zU) : Option zU := (z_b2 (f_X8_takes 46 u) (fun t4 u5 => if t4 = true then ((f_X8_refuse u5).bind (fun u6 => some u6)) else (z_let (f_X8_atEnd u5) (fun t7 => if t7 = true then (some u5) else ((f_X8_refuse u5).bind (fun u8 => some u8))))))
def rcB (lc : zU → Option zU) (reg : Nat) (C : Int32 → zU → Option zU) (x1 : Int32) (u : zU) : Option zU := if (u reg 1) ≤ x1 then rcFin u else (z_b2 (f_X8_takes 46 u) (fun t9 u10 => if t9 = true then ((lc u10).bind (fun u16 => C (x1 + (1 : Int32)) u16)) else rcFin u10))
def rTL (R : Int32 → Int32 → zU → Option (Int32 × zU)) (x2 x3 : Int32) (u3 : zU) : Option (Int32 × zU) := (f_X11_skip u3).bind (fun u4 => if (u4 0 12) = (-1 : Int32) then (if (u4 0 11) = (u4 0 10) then (R (0 : Int32) (x3 + (1 : Int32)) u4) else (z_b2 (f_X11_isSign (59 : Int32) u4) (fun t5 u6 => if t5 = true then (z_let (z_up u6 0 11 ((u6 0 11) + (1 : Int32))) (fun u8 => R x2 (x3 + (1 : Int32)) u8)) else (z_let (f_X11_wrong (u6 0 11) u6) (fun u7 => R x2 (x3 + (1 : Int32)) u7))))) else (R (0 : Int32) (x3 + (1 : Int32)) u4))
def rdB (lr : zU → Option zU) (mx : Int32) (R : Int32 → Int32 → zU → Option (Int32 × zU)) (x2 x3 : Int32) (u : zU) : Option (Int32 × zU) := if x2 = 0 then (some (x3, u)) else (if (u 0 12) = (-1 : Int32) then ((f_X11_skip u).bind (fun u2 => if x3 = mx then (z_let (f_X11_wrong (u2 0 11) u2) (fun u15 => rTL R x2 x3 u15)) else ((lr u2).bind (fun u3 => rTL R x2 x3 u3)))) else (some (x3, u)))
theorem read_f (n : Nat) (x2 x3 : Int32) (u : zU) : f_X11_read_23 (n + 1) false x2 x3 u = rdB f_X11_fairLine 14 (f_X11_read_23 n false) x2 x3 u := by
  rw [f_X11_read_23_s]
  simp only [Bool.false_eq_true, if_false]
  rfl
theorem read_t (n : Nat) (x2 x3 : Int32) (u : zU) : f_X11_read_23 (n + 1) true x2 x3 u = rdB f_X11_lawLine 12 (f_X11_read_23 n true) x2 x3 u := by
  rw [f_X11_read_23_s]
  simp only [if_true]
  rfl
theorem readF_s (L : Nat → Nat) (n : Nat) (x1 : Int32) (u : zU) : f_X6_readF_24 L (n + 1) x1 u = rcB (f_X1_readLine L) 28 (f_X6_readF_24 L n) x1 u := rfl
theorem readL_s (n : Nat) (x1 : Int32) (u : zU) : f_X6_readL_24 (n + 1) x1 u = rcB f_X5_readLine 29 (f_X6_readL_24 n) x1 u := rfl
theorem s46 : sok 46 59 := by unfold sok; decide +kernel
theorem pr_skF {t : Nat → Int32} {n e : Nat} {u v : zU} (f : FAs t n e u v) (he : e ≤ 1000) : ∃ v', f_X11_skip v = some v' ∧ KR v v' ∧ v' 0 12 = v 0 12 := by
  obtain ⟨h1, h2, h3, h4, p, hp, hpe⟩ := f
  have hn := h2.1
  by_cases h : p ≤ n
  · exact ⟨_, pr_skipE h2.r h hp, KR.rf.up (Or.inl rfl) _, rfl⟩
  · refine ⟨v, ?_, KR.rf, rfl⟩
    rw [f_X11_skip_e, f_X11_skip_0_s 4999, h2.2.1, hp, if_pos (nI_le (by omega) (by omega))]
theorem FAs.fin {t : Nat → Int32} {n e : Nat} {u v : zU} (f : FAs t n e u v) : rcFin u = some u := by
  have c := f.c
  unfold rcFin
  rw [c.tk (by rw [s46.1]; decide) (by rw [s46.1]; decide), z_b2s, if_neg Bool.false_ne_true, f_X8_atEnd_e, zl, c.2.1, c.1.2.2.1, if_neg (show ¬ nI (NTh t n) < nI (NTh t n) from fun h => Int32.lt_irrefl h), if_pos rfl]
section RD
variable {t : Nat → Int32} {n e mx reg : Nat} {lc lr : zU → Option zU} {C : Nat → Int32 → zU → Option zU} {R : Nat → Int32 → Int32 → zU → Option (Int32 × zU)} {Q : Nat → Nat → zU → zU → Prop} {QF : zU → zU → Prop}
/-- how the reading of a text ends -/
def REND (n mx : Nat) (Q : Nat → Nat → zU → zU → Prop) (QF : zU → zU → Prop) (x : Int32) (u v : zU) : Prop := (u 3 5 = -1 ∧ v 0 12 = -1 ∧ ∃ m i, m ≤ mx ∧ x = nI m ∧ Q m i u v) ∨ (∃ w, w ≤ n ∧ u 3 5 = nI w ∧ v 0 12 = nI w ∧ QF u v)
theorem j_rdF (hC : ∀ m x u, C (m + 1) x u = rcB lc reg (C m) x u) (hR : ∀ m x2 x3 u, R (m + 1) x2 x3 u = rdB lr (nI mx) (R m) x2 x3 u) (he : e ≤ 1000)
    (h4 : ∀ u v u' v', QF u v → KC u u' → KR v v' → QF u' v') {u v : zU} (f : FAs t n e u v) (hq : QF u v) (f1 f2 : Nat) (x1 x2 x3 : Int32) : ∃ u' x v', C (f1 + 1) x1 u = some u' ∧ rTL (R (f2 + 1)) x2 x3 v = some (x, v') ∧ REND n mx Q QF x u' v' := by
  obtain ⟨v', e1, k1, k2⟩ := pr_skF f he
  have hr : v' 0 12 ≠ -1 := by rw [k2]; exact f.r
  obtain ⟨w, hw, w1, w2⟩ := f.2.2.1
  refine ⟨u, x3 + 1, v', ?_, ?_, Or.inr ⟨w, hw, w1, by rw [k2]; exact w2, h4 u v u v' hq KC.rf k1⟩⟩
  · rw [hC]
    unfold rcB
    by_cases h : (u reg 1) ≤ x1
    · rw [if_pos h, f.fin]
    · rw [if_neg h, f.c.tk (by rw [s46.1]; decide) (by rw [s46.1]; decide), z_b2s, if_neg Bool.false_ne_true, f.fin]
  · unfold rTL
    rw [e1, Option.bind_some, if_neg hr, hR]
    unfold rdB
    rw [if_pos rfl]
theorem j_rd (hmx : mx ≤ 100) (hC : ∀ m x u, C (m + 1) x u = rcB lc reg (C m) x u) (hR : ∀ m x2 x3 u, R (m + 1) x2 x3 u = rdB lr (nI mx) (R m) x2 x3 u) (he : e ≤ 1000)
    (h1 : ∀ k i i' u v u' v', Q k i u v → i ≤ i' → KC u u' → KR v v' → Q k i' u' v') (h3 : ∀ k i u v u' v', Q k i u v → KC u u' → KR v v' → QF u' v') (h4 : ∀ u v u' v', QF u v → KC u u' → KR v v' → QF u' v') (h5 : ∀ k i u v, Q k i u v → u reg 1 = nI mx)
    (h2 : ∀ k i p u v, k < mx → OKs t n i p u v → Q k i u v → ∃ u' v', lc u = some u' ∧ lr v = some v' ∧ ((∃ i' p', i < i' ∧ OKs t n i' p' u' v' ∧ Q (k + 1) i' u' v') ∨ (FAs t n e u' v' ∧ QF u' v'))) :
    ∀ d i p k f1 f2 u v, i + d = NTh t n → d < f1 → d < f2 → k < mx → OKs t n i p u v → Q (k + 1) i u v → ∃ u' x v', C (f1 + 1) (nI (k + 1)) u = some u' ∧ rTL (R (f2 + 1)) 1 (nI k) v = some (x, v') ∧ REND n mx Q QF x u' v' := by
  intro d
  induction d using Nat.strongRecOn with
  | ind d ih =>
  intro i p k f1 f2 u v hd hf1 hf2 hk h hq
  have hp := h.2.2.2.2.2.1
  have hn := h.2.1.1
  have hi4 := h.1.1
  have hsk := pr_skipE h.2.1.r hp h.2.2.2.2.1
  have h1' := h.sk
  have hid := skp_id (t := t) hp
  have kk : KR v (z_up v 0 11 (nI (skp t (n - p) p))) := KR.rf.up (Or.inl rfl) _
  have hnx := h1'.nx
  rw [hid] at hnx
  have hle := skp_le t (n - p) p
  generalize z_up v 0 11 (nI (skp t (n - p) p)) = v1 at hsk h1' kk
  generalize skp t (n - p) p = b at hid h1' hnx hle
  have hrT : rTL (R (f2 + 1)) 1 (nI k) v = (if (v1 0 11) = (v1 0 10) then (R (f2 + 1) (0 : Int32) (nI k + (1 : Int32)) v1) else (z_b2 (f_X11_isSign (59 : Int32) v1) (fun t5 u6 => if t5 = true then (z_let (z_up u6 0 11 ((u6 0 11) + (1 : Int32))) (fun u8 => R (f2 + 1) 1 (nI k + (1 : Int32)) u8)) else (z_let (f_X11_wrong (u6 0 11) u6) (fun u7 => R (f2 + 1) 1 (nI k + (1 : Int32)) u7))))) := by
    unfold rTL
    rw [hsk, Option.bind_some, if_pos h1'.2.2.2.1]
  rw [hrT, nI_1, h1'.2.2.2.2.1, h1'.2.1.2.1, hC]
  have h5' := h5 _ _ _ _ hq
  obtain ⟨x, u1, v2, e1, e2, k1, k2, ht, hf⟩ := j_sign s46 h1'
  rcases hnx with ⟨b1, b2, b3, b4, b5, b6, b7⟩ | ⟨b1, b2, b3, b4⟩
  · rw [if_neg (fun e => by have := (nI_eq (by omega) (by omega)).mp e; omega), e2, z_b2s]
    cases x with
    | true =>
      obtain ⟨p', h2'⟩ := ht rfl
      rw [if_pos rfl, zl]
      have kv2 : KR v1 (z_up v2 0 11 (v2 0 11 + 1)) := by rw [k2]; exact (KR.rf.up (Or.inl rfl) _).up (Or.inl rfl) _
      generalize z_up v2 0 11 (v2 0 11 + 1) = v3 at h2' kv2
      have hp' := h2'.2.2.2.2.2.1
      have hsk3 := pr_skipE h2'.2.1.r hp' h2'.2.2.2.2.1
      have h3' := h2'.sk
      have hid3 := skp_id (t := t) hp'
      have kv3 : KR v3 (z_up v3 0 11 (nI (skp t (n - p') p'))) := KR.rf.up (Or.inl rfl) _
      generalize z_up v3 0 11 (nI (skp t (n - p') p')) = v4 at hsk3 h3' kv3
      generalize skp t (n - p') p' = b' at hid3 h3'
      have krr := (kk.tr kv2).tr kv3
      have hrd : rdB lr (nI mx) (R f2) 1 (nI (k + 1)) v3 = if nI (k + 1) = nI mx then (z_let (f_X11_wrong (v4 0 11) v4) (fun u15 => rTL (R f2) 1 (nI (k + 1)) u15)) else ((lr v4).bind (fun u3 => rTL (R f2) 1 (nI (k + 1)) u3)) := by
        unfold rdB
        rw [if_neg (by decide), if_pos h2'.2.2.2.1, hsk3, Option.bind_some]
      rw [hR, hrd]
      obtain ⟨g2, rfl⟩ : ∃ g2, f2 = g2 + 1 := ⟨f2 - 1, by omega⟩
      by_cases hm : k + 1 < mx
      · rw [if_neg (fun e => by have := (nI_eq (by omega) (by omega)).mp e; omega)]
        obtain ⟨u5, v5, e5, e6, ho⟩ := h2 (k + 1) (i + 1) b' u1 v4 hm h3' (h1 _ _ _ _ _ _ _ hq (by omega) k1 krr)
        have hrc : rcB lc reg (C f1) (nI (k + 1)) u = C f1 (nI (k + 1 + 1)) u5 := by
          unfold rcB
          rw [h5', if_neg (nI_ge hm (by omega)), e1, z_b2s, if_pos rfl, e5, Option.bind_some, nI_1]
        rw [hrc, e6, Option.bind_some]
        obtain ⟨g1, rfl⟩ : ∃ g1, f1 = g1 + 1 := ⟨f1 - 1, by omega⟩
        rcases ho with ⟨i', p'', ho1, ho2, ho3⟩ | ⟨f, hqf⟩
        · have := ho2.2.2.1.2.2
          exact ih (NTh t n - i') (by omega) i' p'' (k + 1) g1 g2 u5 v5 (by omega) (by omega) (by omega) hm ho2 ho3
        · exact j_rdF hC hR he h4 f hqf g1 g2 _ _ _
      · have hm : k + 1 = mx := by omega
        rw [if_pos (by rw [hm]), zl]
        obtain ⟨u5, e5, k5, f, k6⟩ := j_refuse h3' hid3
        have hrc : rcB lc reg (C f1) (nI (k + 1)) u = some u5 := by
          unfold rcB
          rw [h5', if_pos (nI_le (by omega) (by omega))]
          unfold rcFin
          rw [e1, z_b2s, if_pos rfl, e5, Option.bind_some]
        rw [hrc]
        have hqf : QF u5 (f_X11_wrong (v4 0 11) v4) := h3 _ _ _ _ _ _ hq (k1.tr k5) (krr.tr k6)
        obtain ⟨v', s1, s2, s3⟩ := pr_skF f (by decide)
        obtain ⟨w, hw, w1, w2⟩ := f.2.2.1
        refine ⟨u5, nI (k + 1) + 1, v', rfl, ?_, Or.inr ⟨w, hw, w1, by rw [s3]; exact w2, h4 _ _ _ _ hqf KC.rf s2⟩⟩
        unfold rTL
        rw [s1, Option.bind_some, if_neg (by rw [s3]; exact f.r), hR]
        unfold rdB
        rw [if_pos rfl]
    | false =>
      obtain ⟨h2', rfl⟩ := hf rfl
      rw [hid] at h2'
      rw [if_neg Bool.false_ne_true, zl]
      obtain ⟨u5, e5, k5, f, k6⟩ := j_refuse h2' hid
      have kv2 : KR v1 v2 := by rw [k2]; exact KR.rf.up (Or.inl rfl) _
      have hqf : QF u5 (f_X11_wrong (v2 0 11) v2) := h3 _ _ _ _ _ _ hq k5 ((kk.tr kv2).tr k6)
      obtain ⟨w, hw, w1, w2⟩ := f.2.2.1
      have hfin : rcFin u1 = some u5 := by
        unfold rcFin
        rw [e1, z_b2s, if_neg Bool.false_ne_true, f_X8_atEnd_e, zl, h.2.2.1.2.1, h.1.2.2.1, if_pos (nI_lt b2 (by omega)), if_neg Bool.false_ne_true, e5, Option.bind_some]
      refine ⟨u5, nI (k + 1), _, ?_, ?_, Or.inr ⟨w, hw, w1, w2, hqf⟩⟩
      · unfold rcB
        by_cases hm : (u1 reg 1) ≤ nI (k + 1)
        · rw [if_pos hm, hfin]
        · rw [if_neg hm, e1, z_b2s, if_neg Bool.false_ne_true, hfin]
      · rw [hR]
        unfold rdB
        rw [if_neg (by decide), if_neg f.r]
  · have hx : x = false := by
      cases x with
      | false => rfl
      | true =>
        obtain ⟨p', h2'⟩ := ht rfl
        have := h2'.2.2.1.2.2
        omega
    subst hx
    obtain ⟨-, rfl⟩ := hf rfl
    rw [if_pos (by rw [b1])]
    have hfin : rcFin u1 = some u1 := by
      unfold rcFin
      rw [e1, z_b2s, if_neg Bool.false_ne_true, f_X8_atEnd_e, zl, h.2.2.1.2.1, h.1.2.2.1, b2, if_neg (show ¬ nI (NTh t n) < nI (NTh t n) from fun h => Int32.lt_irrefl h), if_pos rfl]
    refine ⟨u1, nI (k + 1), v1, ?_, ?_, Or.inl ⟨h.2.2.1.1, h1'.2.2.2.1, k + 1, i, by omega, rfl, h1 _ _ _ _ _ _ _ hq (Nat.le_refl _) KC.rf kk⟩⟩
    · unfold rcB
      by_cases hm : (u1 reg 1) ≤ nI (k + 1)
      · rw [if_pos hm, hfin]
      · rw [if_neg hm, e1, z_b2s, if_neg Bool.false_ne_true, hfin]
    · rw [hR]
      unfold rdB
      rw [if_pos rfl]
/-- a whole text -/
theorem j_read (hm0 : 0 < mx) (hmx : mx ≤ 100) (hC : ∀ m x u, C (m + 1) x u = rcB lc reg (C m) x u) (hR : ∀ m x2 x3 u, R (m + 1) x2 x3 u = rdB lr (nI mx) (R m) x2 x3 u) (he : e ≤ 1000)
    (h1 : ∀ k i i' u v u' v', Q k i u v → i ≤ i' → KC u u' → KR v v' → Q k i' u' v') (h3 : ∀ k i u v u' v', Q k i u v → KC u u' → KR v v' → QF u' v') (h4 : ∀ u v u' v', QF u v → KC u u' → KR v v' → QF u' v') (h5 : ∀ k i u v, Q k i u v → u reg 1 = nI mx)
    (h2 : ∀ k i p u v, k < mx → OKs t n i p u v → Q k i u v → ∃ u' v', lc u = some u' ∧ lr v = some v' ∧ ((∃ i' p', i < i' ∧ OKs t n i' p' u' v' ∧ Q (k + 1) i' u' v') ∨ (FAs t n e u' v' ∧ QF u' v'))) {u v : zU} (h : OKs t n 0 0 u v) (hq : Q 0 0 u v) {f1 f2 : Nat} (hf1 : 450 ≤ f1) (hf2 : 450 ≤ f2) :
    ∃ u' x v', (z_let (f_X8_atEnd u) (fun t2 => if t2 = true then (some u) else ((lc u).bind (fun u3 => C f1 (1 : Int32) u3)))) = some u' ∧ ((f_X11_skip v).bind (fun u1 => if (u1 0 10) ≤ (u1 0 11) then (R f2 (0 : Int32) (0 : Int32) u1) else (R f2 (1 : Int32) (0 : Int32) u1))) = some (x, v') ∧ REND n mx Q QF x u' v' := by
  have hn := h.2.1.1
  have hi4 := h.1.1
  have hsk := pr_skipE h.2.1.r (Nat.zero_le n) h.2.2.2.2.1
  have h1' := h.sk
  have hid := skp_id (t := t) (Nat.zero_le n)
  have kk : KR v (z_up v 0 11 (nI (skp t (n - 0) 0))) := KR.rf.up (Or.inl rfl) _
  have hnx := h1'.nx
  rw [hid] at hnx
  have hle := skp_le t (n - 0) 0
  generalize z_up v 0 11 (nI (skp t (n - 0) 0)) = v1 at hsk h1' kk
  generalize skp t (n - 0) 0 = b at hid h1' hnx hle
  obtain ⟨g1, rfl⟩ : ∃ g1, f1 = g1 + 1 := ⟨f1 - 1, by omega⟩
  obtain ⟨g2, rfl⟩ : ∃ g2, f2 = g2 + 1 := ⟨f2 - 1, by omega⟩
  rw [hsk, Option.bind_some, h1'.2.1.2.1, h1'.2.2.2.2.1, zl, f_X8_atEnd_e, h.2.2.1.2.1, h.1.2.2.1]
  rcases hnx with ⟨b1, b2, b3, b4, b5, b6, b7⟩ | ⟨b1, b2, b3, b4⟩
  · rw [if_neg (nI_ge b1 (by omega)), if_pos (nI_lt b2 (by omega)), if_neg Bool.false_ne_true, hR]
    have hsk2 := pr_skipE h1'.2.1.r h1'.2.2.2.2.2.1 h1'.2.2.2.2.1
    rw [hid, zup1 v1 0 11 _ h1'.2.2.2.2.1] at hsk2
    have hrd : rdB lr (nI mx) (R g2) 1 0 v1 = ((lr v1).bind (fun u3 => rTL (R g2) 1 (nI 0) u3)) := by
      unfold rdB
      rw [if_neg (by decide), if_pos h1'.2.2.2.1, hsk2, Option.bind_some, if_neg (show ¬ (0 : Int32) = nI mx from fun e => by have := (nI_eq (a := 0) (b := mx) (by omega) (by omega)).mp e; omega)]
      rfl
    rw [hrd]
    obtain ⟨u5, v5, e5, e6, ho⟩ := h2 0 0 b u v1 hm0 h1' (h1 _ _ _ _ _ _ _ hq (Nat.le_refl _) KC.rf kk)
    rw [e5, Option.bind_some, e6, Option.bind_some]
    obtain ⟨g3, rfl⟩ : ∃ g3, g2 = g3 + 1 := ⟨g2 - 1, by omega⟩
    rcases ho with ⟨i', p'', ho1, ho2, ho3⟩ | ⟨f, hqf⟩
    · have := ho2.2.2.1.2.2
      exact j_rd hmx hC hR he h1 h3 h4 h5 h2 (NTh t n - i') i' p'' 0 g1 g3 u5 v5 (by omega) (by omega) (by omega) hm0 ho2 ho3
    · exact j_rdF hC hR he h4 f hqf g1 g3 _ _ _
  · rw [if_pos (nI_le (by omega) (by omega)), ← b2, if_neg (show ¬ nI 0 < nI 0 from fun h => Int32.lt_irrefl h), if_pos rfl, hR]
    refine ⟨u, 0, v1, rfl, ?_, Or.inl ⟨h.2.2.1.1, h1'.2.2.2.1, 0, 0, by omega, rfl, h1 _ _ _ _ _ _ _ hq (Nat.le_refl _) KC.rf kk⟩⟩
    unfold rdB
    rw [if_pos rfl]
end RD
