/-! PURE, 62: sums, and conditions of atoms, in step -/
theorem s42 : sok 42 43 := by unfold sok; decide +kernel
theorem s40 : sok 40 60 := by unfold sok; decide +kernel
theorem s41 : sok 41 62 := by unfold sok; decide +kernel
theorem s36 : sok 36 40 := by unfold sok; decide +kernel
theorem s37 : sok 37 41 := by unfold sok; decide +kernel
theorem FN.ts {t : Nat → Int32} {n a : Nat} {c : Int32} {u : zU} (h : FN t n u) (ha : sok a c) : f_X8_takes a u = some (false, u) := h.1.tk (by rw [ha.1]; decide) (by rw [ha.1]; decide)
theorem FN.tw {t : Nat → Int32} {n a : Nat} {u : zU} (h : FN t n u) (ha : wok a) : f_X8_takes a u = some (false, u) := h.1.tk ha.2.1 ha.1
theorem FN.s7 {t : Nat → Int32} {n : Nat} {u : zU} (h : FN t n u) (f : Nat) (x c : Int32) : f_X5_readSum_7 (f + 1) x c u = some (x, u) := by
  rw [f_X5_readSum_7_s]
  by_cases e : (400 : Int32) ≤ c
  · rw [if_pos e]
  · rw [if_neg e, h.ts s42, z_b2s, if_neg Bool.false_ne_true]
theorem FN.sm {t : Nat → Int32} {n : Nat} {u : zU} (h : FN t n u) : ∃ x u', f_X5_readSum u = some (x, u') ∧ NFr u u' := by
  obtain ⟨x, u', e, nf⟩ := h.pt
  refine ⟨x, u', ?_, nf⟩
  rw [f_X5_readSum_e, e, z_b2s]
  exact (h.k nf).s7 4999 x 0
theorem r_sum5 {v : zU} (h : v 0 12 ≠ -1) (f : Nat) (y : Int32) : f_X11_sum_5 (f + 1) y v = some (y, v) := by
  rw [f_X11_sum_5_s, if_neg h]
theorem r_sum {v : zU} (h : v 0 12 ≠ -1) : f_X11_sum v = some (0, v) := by
  rw [f_X11_sum_e, f_X11_part_e, if_neg h, z_b2s]
  exact r_sum5 h 4999 0
theorem j_sum7 {t : Nat → Int32} {n n0 : Nat} : ∀ d i p k c f1 f2 u v (y : Int32), i + d = NTh t n → d < f1 → d < f2 → OKs t n i p u v → NDS u n0 k → n0 < k → k ≤ i → c < i → EVu u (Fac v) n0 k (k - 1) = y → ∃ a b, f_X5_readSum_7 (f1 + 1) (nI (k - 1)) (nI c) u = some a ∧ f_X11_sum_5 (f2 + 1) y v = some b ∧ PO t n 0 n0 i k u v a.1 a.2 b.1 b.2 := by
  intro d
  induction d using Nat.strongRecOn with
  | ind d ih =>
  intro i p k c f1 f2 u v y hd hf1 hf2 h hN h0 hk hc hy
  have hi := h.2.2.1.2.2
  have hn4 := h.1.1
  obtain ⟨x, u1, v1, e1, e2, k1, k2, ht, hf⟩ := j_sign s42 h
  have kv : KR v v1 := by rw [k2]; exact KR.rf.up (Or.inl rfl) _
  rw [f_X5_readSum_7_s, if_neg (show ¬ (400 : Int32) ≤ nI c from nI_ge (b := 400) (by omega) (by decide)), e1, z_b2s, f_X11_sum_5_s, if_pos h.2.2.2.1, e2, z_b2s]
  cases x with
  | true =>
    obtain ⟨p1, h1⟩ := ht rfl
    have kv2 : KR v (z_up v1 0 11 (v1 0 11 + 1)) := kv.up (Or.inl rfl) _
    rw [if_pos rfl, if_pos rfl, zl]
    generalize z_up v1 0 11 (v1 0 11 + 1) = v2 at h1 kv2
    obtain ⟨a, b, e3, e4, o, kl, kr⟩ := j_part h1 (hN.kc k1) (by omega)
    obtain ⟨x2, u2⟩ := a
    obtain ⟨y2, v3⟩ := b
    rw [e3, z_b2s, e4, z_b2s, zl]
    obtain ⟨g1, rfl⟩ : ∃ g1, f1 = g1 + 1 := ⟨f1 - 1, by omega⟩
    obtain ⟨g2, rfl⟩ : ∃ g2, f2 = g2 + 1 := ⟨f2 - 1, by omega⟩
    rcases o with ⟨i', p', k', b1, b2, b3, b4, b5, b6, b7, b8⟩ | ⟨f, fk⟩
    · have b7 : x2 = nI (k' - 1) := b7
      have hi' := b1.2.2.1.2.2
      have hnd : ND k u u2 := (k1.nd k).tr b6 (Nat.le_refl _)
      obtain ⟨q1, q2, q3, q4, q5, q6⟩ := j_node b1 b2 (by omega) (a := 2) (b := nI (k - 1)) (c := nI (k' - 1)) (Or.inr (Or.inr ⟨⟨k - 1, by omega, by omega, rfl⟩, Or.inr ⟨k' - 1, by omega, by omega, rfl⟩⟩))
      rw [b7, q1, z_b2s, nI_1]
      have hval : EVu (ndu u2 k' 2 (nI (k - 1)) (nI (k' - 1))) (Fac v3) n0 (k' + 1) (k' + 1 - 1) = y + y2 := by
        rw [Nat.add_sub_cancel, q6]
        unfold wvN
        rw [if_neg (by decide), if_neg (by decide), chd_in (by omega) (by omega), chd_in (by omega) (by omega)]
        have g1 : EVu u2 (Fac v3) n0 k' (k - 1) = y := by
          rw [(kv2.tr kr).fv, hN.ev hnd b4 b2.2.2.1 (by omega) (by omega)]; exact hy
        have g2 : EVu u2 (Fac v3) n0 k' (k' - 1) = y2 := by rw [kr.fv]; exact b8
        rw [g1, g2]
        rfl
      obtain ⟨a, b, e5, e6, o2⟩ := ih (NTh t n - i') (by omega) i' p' (k' + 1) (c + 1) g1 g2 _ v3 (y + y2) (by omega) (by omega) (by omega) q2 q3 (by omega) (by omega) (by omega) hval
      rw [Nat.add_sub_cancel] at e5
      exact ⟨a, b, e5, e6, o2.tr (hnd.tr q4 b4) (by omega) (by omega) ((k1.l.tr kl).tr q5) (kv2.tr kr)⟩
    · have fn := f.n fk
      obtain ⟨x3, u3, e5, nf⟩ := fn.nd 2 (nI (k - 1)) x2
      rw [e5, z_b2s, (fn.k nf).s7, r_sum5 f.r]
      exact ⟨_, _, rfl, rfl, Or.inr ⟨f.nf nf, nf.2⟩, (k1.l.tr kl).tr nf.l, kv2.tr kr⟩
  | false =>
    obtain ⟨h1, rfl⟩ := hf rfl
    rw [if_neg Bool.false_ne_true, if_neg Bool.false_ne_true]
    exact ⟨_, _, rfl, rfl, Or.inl ⟨i, _, k, h1, hN, h0, Nat.le_refl _, Nat.le_refl _, ND.rf, rfl, hy⟩, k1.l, kv⟩
theorem j_sum {t : Nat → Int32} {n i p n0 k : Nat} {u v : zU} (h : OKs t n i p u v) (hN : NDS u n0 k) (hk : k ≤ i) : ∃ a b, f_X5_readSum u = some a ∧ f_X11_sum v = some b ∧ PO t n 0 n0 i k u v a.1 a.2 b.1 b.2 := by
  have hn4 := h.1.1
  obtain ⟨a, b, e3, e4, o, kl, kr⟩ := j_part h hN hk
  obtain ⟨x2, u2⟩ := a
  obtain ⟨y2, v3⟩ := b
  rw [f_X5_readSum_e, e3, z_b2s, f_X11_sum_e, e4, z_b2s]
  rcases o with ⟨i', p', k', b1, b2, b3, b4, b5, b6, b7, b8⟩ | ⟨f, fk⟩
  · have b7 : x2 = nI (k' - 1) := b7
    have hi' := b1.2.2.1.2.2
    have b8 : EVu u2 (Fac v) n0 k' (k' - 1) = y2 := b8
    rw [← kr.fv] at b8
    by_cases hik : k < k'
    · obtain ⟨a, b, e5, e6, o2⟩ := j_sum7 (NTh t n - i') i' p' k' 0 4999 4999 u2 v3 y2 (by omega) (by omega) (by omega) b1 b2 b3 (by omega) (by omega) b8
      rw [b7]
      exact ⟨a, b, e5, e6, o2.tr b6 b4 b5 kl kr⟩
    · have : k' = k := by omega
      by_cases hi0 : 0 < i'
      · obtain ⟨a, b, e5, e6, o2⟩ := j_sum7 (NTh t n - i') i' p' k' 0 4999 4999 u2 v3 y2 (by omega) (by omega) (by omega) b1 b2 b3 (by omega) (by omega) b8
        rw [b7]
        exact ⟨a, b, e5, e6, o2.tr b6 b4 b5 kl kr⟩
      · omega
  · have fn := f.n fk
    exact ⟨_, _, fn.s7 4999 x2 0, r_sum5 f.r 4999 y2, Or.inr ⟨f, fk⟩, kl, kr⟩
/-! conditions -/
def cEnd (K : Int32 → Int32 → Int32 → zU → Option (Int32 × zU)) (x1 x2 x3 x4 : Int32) (u : zU) : Option (Int32 × zU) := if x3 = 0 then (K x1 x4 (x3 + (1 : Int32)) u) else (z_b2 (f_X5_node (7 : Int32) x2 x4 u) (fun r3 u4 => K x1 r3 (x3 + (1 : Int32)) u4))
theorem w33 : wok 33 := by unfold wok; decide +kernel
theorem w34 : wok 34 := by unfold wok; decide +kernel
theorem cond37_s (KA : Int32 → zU → Option (Int32 × zU)) (K : Int32 → Int32 → Int32 → zU → Option (Int32 × zU)) (n : Nat) (x1 x2 x3 x4 x5 : Int32) (u : zU) : f_X5_readCondition_37 KA K (n + 1) x1 x2 x3 x4 x5 u = if (400 : Int32) ≤ x5 then cEnd K x1 x2 x3 x4 u else (z_b2 (f_X8_takes 34 u) (fun t5 u6 => if t5 = true then (z_b2 (KA x1 u6) (fun r9 u10 => z_b2 (f_X5_node (6 : Int32) x4 r9 u10) (fun r11 u12 => f_X5_readCondition_37 KA K n x1 x2 x3 r11 (x5 + (1 : Int32)) u12))) else cEnd K x1 x2 x3 x4 u6)) := rfl
theorem FN.c37 {t : Nat → Int32} {n : Nat} {u : zU} (h : FN t n u) (KA : Int32 → zU → Option (Int32 × zU)) (K : Int32 → Int32 → Int32 → zU → Option (Int32 × zU)) (f : Nat) (x1 x2 x3 x4 x5 : Int32) : f_X5_readCondition_37 KA K (f + 1) x1 x2 x3 x4 x5 u = cEnd K x1 x2 x3 x4 u := by
  rw [cond37_s]
  by_cases e : (400 : Int32) ≤ x5
  · rw [if_pos e]
  · rw [if_neg e, h.tw w34, z_b2s, if_neg Bool.false_ne_true]
theorem FN.c4 {t : Nat → Int32} {n : Nat} {u : zU} (h : FN t n u) (KA : Int32 → zU → Option (Int32 × zU)) (f : Nat) (x1 x2 x3 : Int32) (h3 : x3 ≠ 0) : f_X5_readCondition_4 KA (f + 1) x1 x2 x3 u = some (x2, u) := by
  rw [f_X5_readCondition_4_s, if_neg h3]
  by_cases e : (400 : Int32) ≤ x3
  · rw [if_pos e]
  · rw [if_neg e, h.tw w33, z_b2s, if_neg Bool.false_ne_true]
theorem b01b (b : Bool) : z_b01 (bI b) = some b := by cases b <;> rfl
theorem r_ev5 {v : zU} (h : v 0 12 ≠ -1) (KA : zU → Option (Bool × zU)) (f : Nat) (b : Bool) : f_X11_every_5 KA (f + 1) (bI b) v = some (b, v) := by
  rw [f_X11_every_5_s, if_neg h, b01b, Option.bind_some]
theorem r_so5 {v : zU} (h : v 0 12 ≠ -1) (KA : zU → Option (Bool × zU)) (f : Nat) (b : Bool) : f_X11_some_5 KA (f + 1) (bI b) v = some (b, v) := by
  rw [f_X11_some_5_s, if_neg h, b01b, Option.bind_some]
/-- how atoms of the depth D are read in step -/
def HA (t : Nat → Int32) (n e n0 D : Nat) (KA : Int32 → zU → Option (Int32 × zU)) (KB : zU → Option (Bool × zU)) : Prop := ∀ i p k u v, OKs t n i p u v → NDS u n0 k → k ≤ i → v 0 13 = nI D → ∃ x u' b v', KA (nI D) u = some (x, u') ∧ KB v = some (b, v') ∧ PO t n e n0 i k u v x u' (bI b) v'
theorem j_and {t : Nat → Int32} {n e n0 D : Nat} {KA : Int32 → zU → Option (Int32 × zU)} {KB : zU → Option (Bool × zU)} (hA : HA t n e n0 D KA KB) (K : Int32 → Int32 → Int32 → zU → Option (Int32 × zU)) (x2 x3 : Int32) : ∀ d i p k c f1 f2 u v (b : Bool), i + d = NTh t n → d < f1 → d < f2 → OKs t n i p u v → NDS u n0 k → n0 < k → k ≤ i → c < i → v 0 13 = nI D → EVu u (Fac v) n0 k (k - 1) = bI b → ∃ x' u' b' v', f_X5_readCondition_37 KA K (f1 + 1) (nI D) x2 x3 (nI (k - 1)) (nI c) u = cEnd K (nI D) x2 x3 x' u' ∧ f_X11_every_5 KB (f2 + 1) (bI b) v = some (b', v') ∧ PO t n e n0 i k u v x' u' (bI b') v' := by
  intro d
  induction d using Nat.strongRecOn with
  | ind d ih =>
  intro i p k c f1 f2 u v b hd hf1 hf2 h hN h0 hk hc hD hy
  have hi := h.2.2.1.2.2
  have hn4 := h.1.1
  obtain ⟨x, u1, v1, e1, e2, k1, k2, ht, hf⟩ := j_word w34 h
  rw [cond37_s, if_neg (show ¬ (400 : Int32) ≤ nI c from nI_ge (b := 400) (by omega) (by decide)), e1, z_b2s, f_X11_every_5_s, if_pos h.2.2.2.1, e2, z_b2s]
  cases x with
  | true =>
    obtain ⟨p1, h1⟩ := ht rfl
    rw [if_pos rfl, if_pos rfl]
    obtain ⟨xa, u2, b2, v2, e3, e4, o, kl, kr⟩ := hA (i + 1) p1 k u1 v1 h1 (hN.kc k1) (by omega) (by rw [k2 0 13 (by omega)]; exact hD)
    rw [e3, z_b2s, e4, z_b2s]
    obtain ⟨g1, rfl⟩ : ∃ g1, f1 = g1 + 1 := ⟨f1 - 1, by omega⟩
    obtain ⟨g2, rfl⟩ : ∃ g2, f2 = g2 + 1 := ⟨f2 - 1, by omega⟩
    have hre : (if bI b = 0 then f_X11_every_5 KB (g2 + 1) 0 v2 else (if (bI b2) = 0 then (f_X11_every_5 KB (g2 + 1) (0 : Int32) v2) else (f_X11_every_5 KB (g2 + 1) (1 : Int32) v2))) = f_X11_every_5 KB (g2 + 1) (bI (b && b2)) v2 := by
      cases b with
      | false => rw [if_pos (show bI false = 0 from rfl)]; rfl
      | true =>
        rw [if_neg (by decide)]
        cases b2 with
        | false => rw [if_pos (show bI false = 0 from rfl)]; rfl
        | true => rw [if_neg (by decide)]; rfl
    rw [hre]
    rcases o with ⟨i', p', k', b1, b2', b3, b4, b5, b6, b7, b8⟩ | ⟨f, fk⟩
    · have hi' := b1.2.2.1.2.2
      have hnd : ND k u u2 := (k1.nd k).tr b6 (Nat.le_refl _)
      obtain ⟨q1, q2, q3, q4, q5, q6⟩ := j_node b1 b2' (by omega) (a := 6) (b := nI (k - 1)) (c := nI (k' - 1)) (Or.inr (Or.inr ⟨⟨k - 1, by omega, by omega, rfl⟩, Or.inr ⟨k' - 1, by omega, by omega, rfl⟩⟩))
      rw [b7, q1, z_b2s, nI_1]
      have hval : EVu (ndu u2 k' 6 (nI (k - 1)) (nI (k' - 1))) (Fac v2) n0 (k' + 1) (k' + 1 - 1) = bI (b && b2) := by
        rw [Nat.add_sub_cancel, q6]
        unfold wvN
        rw [if_neg (by decide), if_neg (by decide), chd_in (by omega) (by omega), chd_in (by omega) (by omega)]
        have g1 : EVu u2 (Fac v2) n0 k' (k - 1) = bI b := by
          rw [(k2.tr kr).fv, hN.ev hnd b4 b2'.2.2.1 (by omega) (by omega)]; exact hy
        have g2 : EVu u2 (Fac v2) n0 k' (k' - 1) = bI b2 := by rw [kr.fv]; exact b8
        rw [g1, g2]
        cases b <;> cases b2 <;> decide
      obtain ⟨x', u', b', v', e5, e6, o2⟩ := ih (NTh t n - i') (by omega) i' p' (k' + 1) (c + 1) g1 g2 _ v2 (b && b2) (by omega) (by omega) (by omega) q2 q3 (by omega) (by omega) (by omega) (by rw [(k2.tr kr) 0 13 (by omega)]; exact hD) hval
      rw [Nat.add_sub_cancel] at e5
      exact ⟨x', u', b', v', e5, e6, o2.tr (hnd.tr q4 b4) (by omega) (by omega) ((k1.l.tr kl).tr q5) (k2.tr kr)⟩
    · have fn := f.n fk
      obtain ⟨x3', u3, e5, nf⟩ := fn.nd 6 (nI (k - 1)) xa
      rw [e5, z_b2s, (fn.k nf).c37, r_ev5 f.r]
      exact ⟨_, _, _, _, rfl, rfl, Or.inr ⟨f.nf nf, nf.2⟩, (k1.l.tr kl).tr nf.l, k2.tr kr⟩
  | false =>
    obtain ⟨h1, rfl, -⟩ := hf rfl
    rw [if_neg Bool.false_ne_true, if_neg Bool.false_ne_true, b01b, Option.bind_some]
    exact ⟨_, _, _, _, rfl, rfl, Or.inl ⟨i, _, k, h1, hN, h0, Nat.le_refl _, Nat.le_refl _, ND.rf, rfl, hy⟩, k1.l, k2⟩
