/-! PURE, 67: the law's lines in step -/
theorem OKs.a {t : Nat → Int32} {n i p : Nat} {u v v' : zU} (h : OKs t n i p u v) (k : ∀ r j, ¬ (r = 0 ∧ (j = 18 ∨ j = 19)) → v' r j = v r j) : OKs t n i p u v' := by
  obtain ⟨h1, h2, h3, h6, h7, h8, h9⟩ := h
  exact ⟨h1, h2.k (k 0 9 (by omega)) (k 0 10 (by omega)) (funext fun j => k 5 j (by omega)) (Or.inr fun j _ => k 1 _ (by omega)), h3, by rw [k 0 12 (by omega)]; exact h6, by rw [k 0 11 (by omega)]; exact h7, h8, h9⟩
theorem rAdd_e (a b : Int32) (v : zU) : ∃ v', rAdd a b v = some v' ∧ (∀ r j, ¬ (r = 0 ∧ (j = 18 ∨ j = 19)) → v' r j = v r j) ∧ v' 0 18 = v 0 18 + a ∧ v' 0 19 = v 0 19 + b := by
  refine ⟨z_up (z_up v 0 18 (v 0 18 + a)) 0 19 (v 0 19 + b), ?_, fun r j h => ?_, ?_, ?_⟩
  · unfold rAdd
    rw [zl, zl, show (z_up v 0 18 (v 0 18 + a)) 0 19 = v 0 19 from zupo (by omega)]
  · rw [zupo (by omega), zupo (by omega)]
  · rw [zupo (by omega), zupe]
  · rw [zupe]
theorem QL.kc {us v0 : zU} {m i i' : Nat} {u v u' v' : zU} (h : QL us v0 m i u v) (hi : i ≤ i') (c : KC u u') (k : KR v v') : QL us v0 m i' u' v' := by
  obtain ⟨E, k0, ⟨a1, a2, a3, a4, a5⟩, b, b2, ⟨c1, c2⟩, d1, d2⟩ := h
  have e : ∀ r, 29 ≤ r → r ≤ 35 → u' r = u r := fun r h1 h2 => funext fun j => c r j (by omega)
  refine ⟨E, k0, ⟨?_, ?_, by omega, a4, a5⟩, ?_, ?_, ⟨?_, ?_⟩, d1.tr c.l.m, d2.tr k.n⟩
  · rw [e 29 (by omega) (by omega)]; exact a1
  · rw [e 29 (by omega) (by omega)]; exact a2
  · rw [e 32 (by omega) (by omega), e 33 (by omega) (by omega), e 34 (by omega) (by omega), e 35 (by omega) (by omega)]; exact b
  · rw [e 31 (by omega) (by omega)]; exact b2
  · rw [e 30 (by omega) (by omega), e 31 (by omega) (by omega), e 33 (by omega) (by omega), e 34 (by omega) (by omega), e 35 (by omega) (by omega), k 0 18 (by omega)]; exact c1
  · rw [e 30 (by omega) (by omega), e 31 (by omega) (by omega), e 33 (by omega) (by omega), e 34 (by omega) (by omega), e 35 (by omega) (by omega), k 0 19 (by omega)]; exact c2
theorem w32 : wok 32 := by unfold wok; decide +kernel
theorem recu_o {t : Nat → Int32} {n i p : Nat} {u v : zU} (h : OKs t n i p u v) (m : Nat) (a b : Int32) : OKs t n i p (recu u m a b) v := h.kk rfl rfl rfl rfl rfl rfl (fun _ _ => rfl)
theorem recu_f {t : Nat → Int32} {n e : Nat} {u v : zU} (h : FAs t n e u v) (m : Nat) (a b : Int32) : FAs t n e (recu u m a b) v := h.kk rfl rfl rfl rfl
theorem j_ln {t : Nat → Int32} {n i p m c : Nat} {us v0 u v : zU} (hc : c < 3) {fa fb : Int32 → Int32} (hfa : ∀ r, fa r = if c = 0 then r else 0) (hfb : ∀ r, fb r = if c = 1 then r else if c = 2 then -r else 0) (h13 : v0 0 13 = nI 0) (hm : m < 12) (h : OKs t n (i + 1) p u v) (hQ : QL us v0 m i u v) : ∃ u' v', cLn (nI c) u = some u' ∧ rLn fa fb v = some v' ∧ ((∃ i' p', i < i' ∧ OKs t n i' p' u' v' ∧ QL us v0 (m + 1) i' u' v') ∨ (FAs t n 8 u' v' ∧ KM us u' ∧ KN v0 v')) := by
  have hQ0 := hQ
  obtain ⟨E, k, ⟨a1, a2, a3, a4, a5⟩, -, -, -, d1, d2⟩ := hQ
  have huniq : ∀ k2, u 29 9 = nI k2 → k2 ≤ 400 → k2 = k := fun k2 e1 e2 => (nI_eq (by omega) (by omega)).mp (e1.symm.trans a2)
  obtain ⟨x, u1, y, v1, e1, e2, k1, k2, hx, ho⟩ := j_num h (lo := 0) (hi := 30) (by decide) (by decide)
  have hr := sm_of (m := 30) (by decide) hx.1 hx.2
  have u18 : u1 29 8 = nI m := by rw [k1 29 8 (by omega)]; exact a1
  unfold cLn rLn
  rw [e1, z_b2s, e2, z_b2s]
  rcases ho with ⟨p1, h1, rfl⟩ | f
  · obtain ⟨z, u2, v2, e3, e4, k3, k4, ht, hf⟩ := j_word w32 h1
    have kc := k1.tr k3
    have kr := k2.tr k4
    have u28 : u2 29 8 = nI m := by rw [kc 29 8 (by omega)]; exact a1
    rw [e3, z_b2s, if_pos h1.2.2.2.1, e4, z_b2s]
    cases z with
    | false =>
      obtain ⟨h2, rfl, -⟩ := hf rfl
      rw [if_neg Bool.false_ne_true, pc_rec u28 hm, if_neg Bool.false_ne_true, if_pos h2.2.2.2.1]
      obtain ⟨v3, r1, r2, r3, r4⟩ := rAdd_e (fa x) (fb x) v2
      rw [r1]
      refine ⟨_, v3, rfl, rfl, Or.inl ⟨i + 1 + 1, _, by omega, recu_o (h2.a r2) m (nI c) x, ?_⟩⟩
      refine hQ0.add (k' := k) (u1 := u2) (v1 := v2) (by rw [kc 29 9 (by omega)]; exact a2) (by omega) a4 (fun k5 q1 q2 => ?_) kc.l kr.n (kr 0 18 (by omega)) (kr 0 19 (by omega)) hr hc true (fun r j hj => r2 r j (by omega)) (by rw [r3, hfa, if_pos rfl]) (by rw [r4, hfb, if_pos rfl]) (fun k5 q1 q2 => ?_)
      · obtain rfl := huniq k5 q1 q2
        exact ⟨Nat.le_refl _, kc.nd _, fun j j1 j2 => absurd j2 (by omega)⟩
      · obtain rfl := huniq k5 q1 q2
        rw [decide_eq_true rfl, Bool.true_or]
    | true =>
      obtain ⟨p2, h2⟩ := ht rfl
      have hN : NDS u2 k k := ⟨by rw [kc 29 9 (by omega)]; exact a2, Nat.le_refl _, a4, fun j j1 j2 => absurd j2 (by omega)⟩
      have h213 : v2 0 13 = nI 0 := by rw [kr 0 13 (by omega), d2 0 13 (by omega)]; exact h13
      obtain ⟨x', u3, b', v3, e5, e6, o, kl, kr3⟩ := j_cond (j_atom (t := t) (n := n) (n0 := k) 7 0 rfl (by decide)) h2 hN (by omega) h213
      have e5 : f_X5_readCondition (f_X5_readAtom 8) 0 u2 = some (x', u3) := e5
      have e6 : f_X11_some (f_X11_atom 8) v2 = some (b', v3) := e6
      rw [if_pos rfl, if_pos rfl, e5, z_b2s, e6, z_b2s]
      have u38 : u3 29 8 = nI m := by rw [kl 29 8 (by omega) (by omega) (by omega)]; exact u28
      rw [pc_rec u38 hm]
      rcases o with ⟨i', p', k', b1, b2, b3, b4, b5, b6, b7, b8⟩ | ⟨f, fk⟩
      · have hi' := b1.2.2.1.2.2
        have hn4 := h.1.1
        rw [if_pos b1.2.2.2.1, if_pos b1.2.2.2.1]
        have h17 : v3 0 17 = v0 0 17 := by rw [(kr.tr kr3) 0 17 (by omega), d2 0 17 (by omega)]
        have hF : Fac v2 = Fac v0 := (kr.fv).trans d2.fv
        rw [hF] at b8
        have key : ∀ (hb : Bool) v', hb = (b' && decide (v0 0 17 = 0)) → (∀ r j, ¬ (r = 0 ∧ (j = 18 ∨ j = 19)) → v' r j = v3 r j) → v' 0 18 = v3 0 18 + (if hb = true then (if c = 0 then x else 0) else 0) → v' 0 19 = v3 0 19 + (if hb = true then (if c = 1 then x else if c = 2 then -x else 0) else 0) → ((∃ i' p', i < i' ∧ OKs t n i' p' (recu u3 m (nI c) x) v' ∧ QL us v0 (m + 1) i' (recu u3 m (nI c) x) v') ∨ (FAs t n 8 (recu u3 m (nI c) x) v' ∧ KM us (recu u3 m (nI c) x) ∧ KN v0 v')) := fun hb v' hb1 r2 r3 r4 => by
          refine Or.inl ⟨i', p', by omega, recu_o (b1.a r2) m (nI c) x, ?_⟩
          refine hQ0.add (k' := k') (u1 := u3) (v1 := v3) b2.1 (by omega) b2.2.2.1 (fun k5 q1 q2 => ?_) (kc.l.tr kl) (kr.tr kr3).n ((kr.tr kr3) 0 18 (by omega)) ((kr.tr kr3) 0 19 (by omega)) hr hc hb (fun r j hj => r2 r j (by omega)) r3 r4 (fun k5 q1 q2 => ?_)
          · obtain rfl := huniq k5 q1 q2
            exact ⟨b4, (kc.nd _).tr b6 (Nat.le_refl _), b2.2.2.2⟩
          · obtain rfl := huniq k5 q1 q2
            rw [decide_eq_false (show ¬ k' = k5 by omega), Bool.false_or, hb1]
            unfold ov
            by_cases q : v0 0 17 = 0
            · rw [if_pos q, decide_eq_true q, Bool.and_true]
              show b' = decide (EVu u3 (Fac v0) k5 k' (k' - 1) ≠ 0)
              rw [b8]
              cases b' <;> decide
            · rw [if_neg q, decide_eq_false q, Bool.and_false]
        rw [h17]
        cases b' with
        | false =>
          rw [if_pos (show bI false = 0 from rfl)]
          exact ⟨_, _, rfl, rfl, key false v3 rfl (fun _ _ _ => rfl) (by rw [if_neg Bool.false_ne_true]; lia) (by rw [if_neg Bool.false_ne_true]; lia)⟩
        | true =>
          rw [if_neg (show ¬ bI true = 0 by decide)]
          by_cases q : v0 0 17 = 0
          · rw [if_pos q]
            obtain ⟨v4, r1, r2, r3, r4⟩ := rAdd_e (fa x) (fb x) v3
            rw [r1]
            exact ⟨_, v4, rfl, rfl, key true v4 (by rw [decide_eq_true q]; rfl) r2 (by rw [r3, hfa, if_pos rfl]) (by rw [r4, hfb, if_pos rfl])⟩
          · rw [if_neg q]
            exact ⟨_, _, rfl, rfl, key false v3 (by rw [decide_eq_false q]; rfl) (fun _ _ _ => rfl) (by rw [if_neg Bool.false_ne_true]; lia) (by rw [if_neg Bool.false_ne_true]; lia)⟩
      · have hres : (if bI b' = 0 then (if (v3 0 12) = (-1 : Int32) then (some v3) else (some v3)) else (if (v3 0 17) = 0 then (if (v3 0 12) = (-1 : Int32) then (rAdd (fa x) (fb x) v3) else (some v3)) else (if (v3 0 12) = (-1 : Int32) then (some v3) else (some v3)))) = some v3 := by
          rw [if_neg f.r, if_neg f.r]
          split
          · rfl
          · split <;> rfl
        rw [hres]
        exact ⟨_, v3, rfl, rfl, Or.inr ⟨recu_f f m (nI c) x, ((d1.tr kc.l.m).tr kl.m).tr (recu_m _ _ _ _), (d2.tr kr.n).tr kr3.n⟩⟩
  · rw [f.c.tk w32.2.1 w32.1, z_b2s, if_neg Bool.false_ne_true, pc_rec u18 hm, if_neg f.r]
    exact ⟨_, _, rfl, rfl, Or.inr ⟨(recu_f f m (nI c) x).mono (by omega), (d1.tr k1.l.m).tr (recu_m _ _ _ _), d2.tr k2.n⟩⟩
theorem w29 : wok 29 := by unfold wok; decide +kernel
theorem w30 : wok 30 := by unfold wok; decide +kernel
theorem w31 : wok 31 := by unfold wok; decide +kernel
theorem j_lline {t : Nat → Int32} {n i p m : Nat} {us v0 u v : zU} (h13 : v0 0 13 = nI 0) (hm : m < 12) (h : OKs t n i p u v) (hQ : QL us v0 m i u v) : ∃ u' v', f_X5_readLine u = some u' ∧ f_X11_lawLine v = some v' ∧ ((∃ i' p', i < i' ∧ OKs t n i' p' u' v' ∧ QL us v0 (m + 1) i' u' v') ∨ (FAs t n 8 u' v' ∧ KM us u' ∧ KN v0 v')) := by
  rw [f_X5_readLine_t, f_X11_lawLine_t]
  refine j_alt w29 h (fun u' v' => ((∃ i' p', i < i' ∧ OKs t n i' p' u' v' ∧ QL us v0 (m + 1) i' u' v') ∨ (FAs t n 8 u' v' ∧ KM us u' ∧ KN v0 v'))) (fun p' u' v' k1 k2 h1 => j_ln (c := 0) (by decide) (fun _ => rfl) (fun _ => rfl) h13 hm h1 (hQ.kc (Nat.le_refl _) k1 k2)) (fun p' v1 k2 _ q1 h1 => ?_)
  have k2a := k2
  refine j_alt w30 h1 (fun u' v' => ((∃ i' p', i < i' ∧ OKs t n i' p' u' v' ∧ QL us v0 (m + 1) i' u' v') ∨ (FAs t n 8 u' v' ∧ KM us u' ∧ KN v0 v'))) (fun p' u' v' k1 k2 h1 => j_ln (c := 1) (by decide) (fun _ => rfl) (fun _ => rfl) h13 hm h1 (hQ.kc (Nat.le_refl _) k1 (k2a.tr k2))) (fun p' v1 k2 _ q1 h1 => ?_)
  have k2a := k2a.tr k2
  refine j_alt w31 h1 (fun u' v' => ((∃ i' p', i < i' ∧ OKs t n i' p' u' v' ∧ QL us v0 (m + 1) i' u' v') ∨ (FAs t n 8 u' v' ∧ KM us u' ∧ KN v0 v'))) (fun p' u' v' k1 k2 h1 => j_ln (c := 2) (by decide) (fun _ => rfl) (fun _ => rfl) h13 hm h1 (hQ.kc (Nat.le_refl _) k1 (k2a.tr k2))) (fun p' v1 k2 _ q1 h1 => ?_)
  have k2a := k2a.tr k2
  obtain ⟨u', e1, k3, f, k4⟩ := j_refuse h1 q1
  obtain ⟨E, k, ⟨a1, a2, a3, a4, a5⟩, -, -, -, d1, d2⟩ := hQ
  refine ⟨_, _, ?_, by rw [zl], Or.inr ⟨(recu_f f m (-1) 0).mono (by omega), (d1.tr k3.l.m).tr (recu_m _ _ _ _), d2.tr (k2a.tr k4).n⟩⟩
  rw [e1, Option.bind_some]
  unfold cLn
  rw [f.c.nu (by decide), z_b2s, f.c.tk w32.2.1 w32.1, z_b2s, if_neg Bool.false_ne_true, pc_rec (by rw [k3 29 8 (by omega)]; exact a1) hm]
