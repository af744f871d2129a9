/-! PURE, 63: conditions in step -/
theorem cond4_s (KA : Int32 → zU → Option (Int32 × zU)) (n : Nat) (x1 x2 x3 : Int32) (u : zU) (h : x3 ≠ 0) : f_X5_readCondition_4 KA (n + 1) x1 x2 x3 u = (if (400 : Int32) ≤ x3 then (some (x2, u)) else (z_b2 (f_X8_takes 33 u) (fun t13 u14 => if t13 = true then (z_b2 (KA x1 u14) (fun r15 u16 => f_X5_readCondition_37 KA (fun k1 k2 k3 u => f_X5_readCondition_4 KA n k1 k2 k3 u) 5000 x1 x2 x3 r15 (0 : Int32) u16)) else (some (x2, u14))))) := by
  rw [f_X5_readCondition_4_s, if_neg h]
theorem j_or {t : Nat → Int32} {n e n0 D : Nat} {KA : Int32 → zU → Option (Int32 × zU)} {KB : zU → Option (Bool × zU)} (hA : HA t n e n0 D KA KB) : ∀ d i p k c f1 f2 u v (b : Bool), i + d = NTh t n → d < f1 → d < f2 → OKs t n i p u v → NDS u n0 k → n0 < k → k ≤ i → 1 ≤ c → c ≤ k → v 0 13 = nI D → EVu u (Fac v) n0 k (k - 1) = bI b → ∃ x' u' b' v', f_X5_readCondition_4 KA (f1 + 1) (nI D) (nI (k - 1)) (nI c) u = some (x', u') ∧ f_X11_some_5 KB (f2 + 1) (bI b) v = some (b', v') ∧ PO t n e n0 i k u v x' u' (bI b') v' := by
  intro d
  induction d using Nat.strongRecOn with
  | ind d ih =>
  intro i p k c f1 f2 u v b hd hf1 hf2 h hN h0 hk hc1 hc hD hy
  have hi := h.2.2.1.2.2
  have hn4 := h.1.1
  have hc0 : nI c ≠ 0 := nI_ne0 hc1 (by omega)
  obtain ⟨x, u1, v1, e1, e2, k1, k2, ht, hf⟩ := j_word w33 h
  rw [cond4_s _ _ _ _ _ _ hc0, f_X11_some_5_s, if_pos h.2.2.2.1, e2, z_b2s]
  cases x with
  | false =>
    obtain ⟨h1, rfl, -⟩ := hf rfl
    rw [if_neg Bool.false_ne_true, b01b, Option.bind_some]
    have hc : (if (400 : Int32) ≤ nI c then (some (nI (k - 1), u1)) else (z_b2 (f_X8_takes 33 u1) (fun t13 u14 => if t13 = true then (z_b2 (KA (nI D) u14) (fun r15 u16 => f_X5_readCondition_37 KA (fun k1 k2 k3 u => f_X5_readCondition_4 KA f1 k1 k2 k3 u) 5000 (nI D) (nI (k - 1)) (nI c) r15 (0 : Int32) u16)) else (some (nI (k - 1), u14))))) = some (nI (k - 1), u1) := by
      by_cases q : (400 : Int32) ≤ nI c
      · rw [if_pos q]
      · rw [if_neg q, e1, z_b2s, if_neg Bool.false_ne_true]
    rw [hc]
    exact ⟨_, _, _, _, rfl, rfl, Or.inl ⟨i, _, k, h1, hN, h0, Nat.le_refl _, Nat.le_refl _, ND.rf, rfl, hy⟩, k1.l, k2⟩
  | true =>
    obtain ⟨p1, h1⟩ := ht rfl
    have hi1 := h1.2.2.1.2.2
    rw [if_neg (show ¬ (400 : Int32) ≤ nI c from nI_ge (b := 400) (by omega) (by decide)), e1, z_b2s, if_pos rfl, if_pos rfl]
    obtain ⟨xa, u2, b2, v2, e3, e4, o, kl, kr⟩ := hA (i + 1) p1 k u1 v1 h1 (hN.kc k1) (by omega) (by rw [k2 0 13 (by omega)]; exact hD)
    rw [e3, z_b2s, f_X11_every_e, e4, z_b2s]
    obtain ⟨g1, rfl⟩ : ∃ g1, f1 = g1 + 1 := ⟨f1 - 1, by omega⟩
    obtain ⟨g2, rfl⟩ : ∃ g2, f2 = g2 + 1 := ⟨f2 - 1, by omega⟩
    have hre : ∀ (b2 : Bool) v2, (if bI b = 0 then (if (bI b2) = 0 then (f_X11_some_5 KB (g2 + 1) (0 : Int32) v2) else (f_X11_some_5 KB (g2 + 1) (1 : Int32) v2)) else f_X11_some_5 KB (g2 + 1) 1 v2) = f_X11_some_5 KB (g2 + 1) (bI (b || b2)) v2 := fun b2 v2 => by
      cases b with
      | true => rw [if_neg (by decide)]; rfl
      | false =>
        rw [if_pos (show bI false = 0 from rfl)]
        cases b2 with
        | false => rw [if_pos (show bI false = 0 from rfl)]; rfl
        | true => rw [if_neg (by decide)]; rfl
    have hFA : ∀ {x4 : Int32} {u3 v3 : zU} {bb : Bool}, FAs t n e u3 v3 → FN t n u3 → KL u u3 → KR v v3 → ∃ x' u' b' v', cEnd (fun k1 k2 k3 u => f_X5_readCondition_4 KA (g1 + 1) k1 k2 k3 u) (nI D) (nI (k - 1)) (nI c) x4 u3 = some (x', u') ∧ (if bI b = 0 then (if (bI bb) = 0 then (f_X11_some_5 KB (g2 + 1) (0 : Int32) v3) else (f_X11_some_5 KB (g2 + 1) (1 : Int32) v3)) else f_X11_some_5 KB (g2 + 1) 1 v3) = some (b', v') ∧ PO t n e n0 i k u v x' u' (bI b') v' := fun {x4 u3 v3 bb} f fn kl kr => by
      obtain ⟨x5, u5, e5, nf⟩ := fn.nd 7 (nI (k - 1)) x4
      rw [hre, r_so5 f.r]
      unfold cEnd
      rw [if_neg hc0, e5, z_b2s, nI_1]
      exact ⟨_, _, _, _, (fn.k nf).c4 KA g1 (nI D) x5 (nI (c + 1)) (nI_ne0 (by omega) (by omega)), rfl, Or.inr ⟨f.nf nf, nf.2⟩, kl.tr nf.l, kr⟩
    rcases o with ⟨i', p', k', b1, b2', b3, b4, b5, b6, b7, b8⟩ | ⟨f, fk⟩
    · have hi' := b1.2.2.1.2.2
      have hnd : ND k u u2 := (k1.nd k).tr b6 (Nat.le_refl _)
      obtain ⟨x6, u6, b9, v6, e6, e7, o2, kl2, kr2⟩ := j_and hA (fun k1 k2 k3 u => f_X5_readCondition_4 KA (g1 + 1) k1 k2 k3 u) (nI (k - 1)) (nI c) (NTh t n - i') i' p' k' 0 4999 4999 u2 v2 b2 (by omega) (by omega) (by omega) b1 b2' b3 (by omega) (by omega) (by rw [(k2.tr kr) 0 13 (by omega)]; exact hD) (by rw [kr.fv]; exact b8)
      rw [b7]
      have e6 : f_X5_readCondition_37 KA (fun k1 k2 k3 u => f_X5_readCondition_4 KA (g1 + 1) k1 k2 k3 u) 5000 (nI D) (nI (k - 1)) (nI c) (nI (k' - 1)) 0 u2 = _ := e6
      have e7 : f_X11_every_5 KB 5000 (bI b2) v2 = _ := e7
      rw [e6, e7, z_b2s]
      rcases o2 with ⟨i2, p2, k2', c1, c2, c3, c4, c5, c6, c7, c8⟩ | ⟨f, fk⟩
      · have hi2 := c1.2.2.1.2.2
        rw [hre]
        have hnd2 : ND k u u6 := hnd.tr c6 b4
        obtain ⟨q1, q2, q3, q4, q5, q6⟩ := j_node c1 c2 (by omega) (a := 7) (b := nI (k - 1)) (c := nI (k2' - 1)) (Or.inr (Or.inr ⟨⟨k - 1, by omega, by omega, rfl⟩, Or.inr ⟨k2' - 1, by omega, by omega, rfl⟩⟩))
        have hval : EVu (ndu u6 k2' 7 (nI (k - 1)) (nI (k2' - 1))) (Fac v6) n0 (k2' + 1) (k2' + 1 - 1) = bI (b || b9) := by
          rw [Nat.add_sub_cancel, q6]
          unfold wvN
          rw [if_neg (by decide), if_neg (by decide), chd_in (by omega) (by omega), chd_in (by omega) (by omega)]
          have g1 : EVu u6 (Fac v6) n0 k2' (k - 1) = bI b := by
            rw [((k2.tr kr).tr kr2).fv, hN.ev hnd2 (by omega) c2.2.2.1 (by omega) (by omega)]; exact hy
          have g2 : EVu u6 (Fac v6) n0 k2' (k2' - 1) = bI b9 := by rw [kr2.fv]; exact c8
          rw [g1, g2]
          cases b <;> cases b9 <;> decide
        obtain ⟨x', u', b', v', e8, e9, o3⟩ := ih (NTh t n - i2) (by omega) i2 p2 (k2' + 1) (c + 1) g1 g2 _ v6 (b || b9) (by omega) (by omega) (by omega) q2 q3 (by omega) (by omega) (by omega) (by omega) (by rw [((k2.tr kr).tr kr2) 0 13 (by omega)]; exact hD) hval
        rw [Nat.add_sub_cancel] at e8
        refine ⟨x', u', b', v', ?_, e9, o3.tr (hnd2.tr q4 (by omega)) (by omega) (by omega) (((k1.l.tr kl).tr kl2).tr q5) ((k2.tr kr).tr kr2)⟩
        unfold cEnd
        rw [if_neg hc0, c7, q1, z_b2s, nI_1]
        exact e8
      · exact hFA f (f.n fk) ((k1.l.tr kl).tr kl2) ((k2.tr kr).tr kr2)
    · have fn := f.n fk
      have e6 := fn.c37 KA (fun k1 k2 k3 u => f_X5_readCondition_4 KA (g1 + 1) k1 k2 k3 u) 4999 (nI D) (nI (k - 1)) (nI c) xa 0
      have e6 : f_X5_readCondition_37 KA (fun k1 k2 k3 u => f_X5_readCondition_4 KA (g1 + 1) k1 k2 k3 u) 5000 (nI D) (nI (k - 1)) (nI c) xa 0 u2 = _ := e6
      have e7 : f_X11_every_5 KB 5000 (bI b2) v2 = _ := r_ev5 f.r KB 4999 b2
      rw [e6, e7, z_b2s]
      exact hFA f fn (k1.l.tr kl) (k2.tr kr)
theorem j_cond {t : Nat → Int32} {n e n0 D i p k : Nat} {KA : Int32 → zU → Option (Int32 × zU)} {KB : zU → Option (Bool × zU)} (hA : HA t n e n0 D KA KB) {u v : zU} (h : OKs t n i p u v) (hN : NDS u n0 k) (hk : k ≤ i) (hD : v 0 13 = nI D) : ∃ x' u' b' v', f_X5_readCondition KA (nI D) u = some (x', u') ∧ f_X11_some KB v = some (b', v') ∧ PO t n e n0 i k u v x' u' (bI b') v' := by
  have hn4 := h.1.1
  obtain ⟨xa, u2, b2, v2, e3, e4, o, kl, kr⟩ := hA i p k u v h hN hk hD
  have hc4 : f_X5_readCondition KA (nI D) u = z_b2 (KA (nI D) u) (fun r1 u2 => f_X5_readCondition_37 KA (fun k1 k2 k3 u => f_X5_readCondition_4 KA 4999 k1 k2 k3 u) 5000 (nI D) (-1) 0 r1 (0 : Int32) u2) := by
    rw [f_X5_readCondition_e, f_X5_readCondition_4_s KA 4999, if_pos rfl]
  rw [hc4, e3, z_b2s, f_X11_some_e, f_X11_every_e, e4, z_b2s]
  rcases o with ⟨i', p', k', b1, b2', b3, b4, b5, b6, b7, b8⟩ | ⟨f, fk⟩
  · have hi' := b1.2.2.1.2.2
    obtain ⟨x6, u6, b9, v6, e6, e7, o2, kl2, kr2⟩ := j_and hA (fun k1 k2 k3 u => f_X5_readCondition_4 KA 4999 k1 k2 k3 u) (-1) 0 (NTh t n - i') i' p' k' 0 4999 4999 u2 v2 b2 (by omega) (by omega) (by omega) b1 b2' b3 (by omega) (by omega) (by rw [kr 0 13 (by omega)]; exact hD) (by rw [kr.fv]; exact b8)
    rw [b7]
    have e6 : f_X5_readCondition_37 KA (fun k1 k2 k3 u => f_X5_readCondition_4 KA 4999 k1 k2 k3 u) 5000 (nI D) (-1) 0 (nI (k' - 1)) 0 u2 = _ := e6
    have e7 : f_X11_every_5 KB 5000 (bI b2) v2 = _ := e7
    rw [e6, e7, z_b2s]
    have hce : cEnd (fun k1 k2 k3 u => f_X5_readCondition_4 KA 4999 k1 k2 k3 u) (nI D) (-1) 0 x6 u6 = f_X5_readCondition_4 KA 4999 (nI D) x6 1 u6 := if_pos rfl
    rw [hce]
    rcases o2 with ⟨i2, p2, k2', c1, c2, c3, c4, c5, c6, c7, c8⟩ | ⟨f, fk⟩
    · have hi2 := c1.2.2.1.2.2
      obtain ⟨x', u', b', v', e8, e9, o3⟩ := j_or hA (NTh t n - i2) i2 p2 k2' 1 4998 4999 u6 v6 b9 (by omega) (by omega) (by omega) c1 c2 c3 (by omega) (by omega) (by omega) (by rw [(kr.tr kr2) 0 13 (by omega)]; exact hD) (by rw [kr2.fv]; exact c8)
      rw [c7]
      exact ⟨x', u', b', v', e8, e9, o3.tr (b6.tr c6 b4) (by omega) (by omega) (kl.tr kl2) (kr.tr kr2)⟩
    · have fn := f.n fk
      exact ⟨_, _, _, _, fn.c4 KA 4998 (nI D) x6 1 (by decide), r_so5 f.r KB 4999 b9, Or.inr ⟨f, fk⟩, kl.tr kl2, kr.tr kr2⟩
  · have fn := f.n fk
    have e6 : f_X5_readCondition_37 KA (fun k1 k2 k3 u => f_X5_readCondition_4 KA 4999 k1 k2 k3 u) 5000 (nI D) (-1) 0 xa 0 u2 = _ := fn.c37 KA (fun k1 k2 k3 u => f_X5_readCondition_4 KA 4999 k1 k2 k3 u) 4999 (nI D) (-1) 0 xa 0
    have e7 : f_X11_every_5 KB 5000 (bI b2) v2 = _ := r_ev5 f.r KB 4999 b2
    rw [e6, e7, z_b2s]
    have hce : cEnd (fun k1 k2 k3 u => f_X5_readCondition_4 KA 4999 k1 k2 k3 u) (nI D) (-1) 0 xa u2 = f_X5_readCondition_4 KA 4999 (nI D) xa 1 u2 := if_pos rfl
    rw [hce]
    exact ⟨_, _, _, _, fn.c4 KA 4998 (nI D) xa 1 (by decide), r_so5 f.r KB 4999 b2, Or.inr ⟨f, fk⟩, kl, kr⟩
theorem FN.cond {t : Nat → Int32} {n : Nat} {KA : Int32 → zU → Option (Int32 × zU)} {x1 : Int32} {u : zU} (h : FN t n u) (hF : ∃ x u', KA x1 u = some (x, u') ∧ NFr u u') : ∃ x u', f_X5_readCondition KA x1 u = some (x, u') ∧ NFr u u' := by
  obtain ⟨x, u', e, nf⟩ := hF
  have fn := h.k nf
  have e6 : f_X5_readCondition_37 KA (fun k1 k2 k3 u => f_X5_readCondition_4 KA 4999 k1 k2 k3 u) 5000 x1 (-1) 0 x 0 u' = _ := fn.c37 KA (fun k1 k2 k3 u => f_X5_readCondition_4 KA 4999 k1 k2 k3 u) 4999 x1 (-1) 0 x 0
  have hce : cEnd (fun k1 k2 k3 u => f_X5_readCondition_4 KA 4999 k1 k2 k3 u) x1 (-1) 0 x u' = f_X5_readCondition_4 KA 4999 x1 x 1 u' := if_pos rfl
  refine ⟨x, u', ?_, nf⟩
  rw [f_X5_readCondition_e, f_X5_readCondition_4_s KA 4999, if_pos rfl, e, z_b2s, e6, hce]
  exact fn.c4 KA 4998 x1 x 1 (by decide)
