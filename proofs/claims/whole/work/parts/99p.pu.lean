/-! PURE, 65: atoms in step, to their depth -/
def KD (v v' : zU) : Prop := ∀ r j, ¬ (r = 0 ∧ j = 13) → v' r j = v r j
theorem KD.up (v : zU) (x : Int32) : KD v (z_up v 0 13 x) := fun _ _ h => zupo h
theorem TX.d {t : Nat → Int32} {n : Nat} {v v' : zU} (h : TX t n v) (k : KD v v') : TX t n v' := h.k (k 0 9 (by omega)) (k 0 10 (by omega)) (funext fun j => k 5 j (by omega)) (Or.inr fun j _ => k 1 _ (by omega))
theorem OKs.d {t : Nat → Int32} {n i p : Nat} {u v v' : zU} (h : OKs t n i p u v) (k : KD v v') : OKs t n i p u v' := by
  obtain ⟨h1, h2, h3, h6, h7, h8, h9⟩ := h
  exact ⟨h1, h2.d k, h3, by rw [k 0 12 (by omega)]; exact h6, by rw [k 0 11 (by omega)]; exact h7, h8, h9⟩
theorem FAs.d {t : Nat → Int32} {n e : Nat} {u v v' : zU} (h : FAs t n e u v) (k : KD v v') : FAs t n e u v' := by
  obtain ⟨h1, h2, h3, h4, h5⟩ := h
  exact ⟨h1, h2.d k, by rw [k 0 12 (by omega)]; exact h3, h4, by rw [k 0 11 (by omega)]; exact h5⟩
theorem FAs.p1 {t : Nat → Int32} {n e : Nat} {u v : zU} (h : FAs t n e u v) : FAs t n (e + 1) u (z_up v 0 11 (v 0 11 + 1)) := by
  obtain ⟨h1, h2, h3, h4, p, h5, h6⟩ := h
  exact ⟨h1, h2.kr (KR.rf.up (Or.inl rfl) _), h3, h4, p + 1, by rw [zupe, h5, nI_1], by omega⟩
theorem KD.fv {v v' : zU} (k : KD v v') : Fac v' = Fac v := Fac_e (funext fun j => k 6 j (by omega)) (k 0 15 (by omega)) (k 0 16 (by omega))
theorem kr13 {v w w1 w2 v' : zU} (a : KR v w) (b : KD w w1) (c : KR w1 w2) (d : KD w2 v') (h : v' 0 13 = v 0 13) : KR v v' := fun r j hj => by
  by_cases e : r = 0 ∧ j = 13
  · rw [e.1, e.2]; exact h
  · rw [d r j e, c r j hj, b r j e, a r j hj]
theorem j_atom {t : Nat → Int32} {n n0 : Nat} : ∀ g D, D + (g + 1) = 8 → D ≤ 6 → HA t n (g + 1) n0 D (f_X5_readAtom (g + 1)) (f_X11_atom (g + 1)) := by
  intro g
  induction g with
  | zero => intro D h1 h2; omega
  | succ g ih =>
  intro D hDg hD6 i p k u v h hN hk hD
  have hp := h.2.2.2.2.2.1
  have hn4 := h.1.1
  have hpl := pr_place h.2.1.r hp h.2.2.2.2.1
  have h1 := h.sk
  have hid := skp_id (t := t) hp
  have kk : KR v (z_up v 0 11 (nI (skp t (n - p) p))) := KR.rf.up (Or.inl rfl) _
  generalize z_up v 0 11 (nI (skp t (n - p) p)) = v1 at hpl h1 kk
  generalize skp t (n - p) p = b at hpl hid h1
  obtain ⟨x, u1, v2, e1, e2, k1, k2, ht, hf⟩ := j_word w35 h1
  have hB := pr_has (a := 35) w35.1 h1.2.1.r h1.2.2.2.2.2.1 h1.2.2.2.2.1
  rw [hid] at hB
  have hD2 : v2 0 13 = nI D := by rw [(kk.tr k2) 0 13 (by omega)]; exact hD
  rw [f_X11_atom_t, if_pos h.2.2.2.1, hpl, z_b2s, e2, z_b2s]
  by_cases hD5 : D < 6
  · have hA := ih (D + 1) (by omega) (by omega)
    have hn6 : ¬ nI D = (6 : Int32) := fun e => by have := (nI_eq (b := 6) (by omega) (by decide)).mp e; omega
    rw [f_X5_readAtom_t, if_neg (show ¬ (6 : Int32) ≤ nI D from nI_ge (b := 6) hD5 (by decide)), e1, z_b2s, nI_1]
    cases x with
    | true =>
      obtain ⟨p1, h2⟩ := ht rfl
      rw [if_pos rfl, if_neg (show ¬ bI true = 0 by decide), hD2, if_neg hn6, zl, if_neg (show ¬ bI true = 0 by decide), nI_1]
      have kd := KD.up v2 (nI (D + 1))
      have hw13 : (z_up v2 0 13 (nI (D + 1))) 0 13 = nI (D + 1) := zupe
      generalize z_up v2 0 13 (nI (D + 1)) = w at kd hw13
      obtain ⟨xa, u2, b2, w', e3, e4, o, kl, kr⟩ := hA (i + 1) p1 k u1 w (h2.d kd) (hN.kc k1) (by omega) hw13
      have hw' : w' 0 13 = nI (D + 1) := by rw [kr 0 13 (by omega)]; exact hw13
      have kd2 := KD.up w' (nI D)
      have hfin : (if b2 = true then (z_let (z_up w' 0 13 ((w' 0 13) - (1 : Int32))) (fun u23 => some (false, u23))) else (z_let (z_up w' 0 13 ((w' 0 13) - (1 : Int32))) (fun u24 => some (true, u24)))) = some (!b2, z_up w' 0 13 (nI D)) := by
        rw [hw', show nI (D + 1) - 1 = nI D from nI_sb (a := D + 1) (b := 1) (by omega)]
        cases b2 <;> rfl
      rw [e3, z_b2s, e4, z_b2s, hfin]
      have kfin : KR v (z_up w' 0 13 (nI D)) := kr13 (kk.tr k2) kd kr kd2 (by rw [zupe, hD])
      rcases o with ⟨i', p', k', b1, b2', b3, b4, b5, b6, b7, b8⟩ | ⟨f, fk⟩
      · have hi' := b1.2.2.1.2.2
        obtain ⟨q1, q2, q3, q4, q5, q6⟩ := j_node b1 b2' (by omega) (a := 5) (b := nI (k' - 1)) (c := -1) (Or.inr (Or.inr ⟨⟨k' - 1, by omega, by omega, rfl⟩, Or.inl rfl⟩))
        rw [b7, q1, z_b2s]
        refine ⟨_, _, !b2, _, rfl, rfl, Or.inl ⟨i', p', k' + 1, q2.d kd2, q3, by omega, by omega, by omega, ((k1.nd k).tr b6 (Nat.le_refl _)).tr q4 b4, by rw [Nat.add_sub_cancel], ?_⟩, (k1.l.tr kl).tr q5, kfin⟩
        rw [Nat.add_sub_cancel, q6]
        unfold wvN
        rw [if_neg (by decide), if_neg (by decide), chd_in (by omega) (by omega), chd_m]
        rw [kd.fv, (kk.tr k2).fv] at b8
        rw [b8]
        cases b2 <;> decide
      · have fn := f.n fk
        obtain ⟨x3, u3, e5, nf⟩ := fn.nd 5 xa (-1)
        rw [e5, z_b2s]
        exact ⟨_, _, !b2, _, rfl, rfl, Or.inr ⟨((f.nf nf).d kd2).mono (by omega), nf.2⟩, (k1.l.tr kl).tr nf.l, kfin⟩
    | false =>
      obtain ⟨h2, rfl, -⟩ := hf rfl
      rw [if_neg Bool.false_ne_true, if_pos (show bI false = 0 from rfl)]
      obtain ⟨x, u2, v3, e3, e4, k3, k4, ht, hf⟩ := j_sign s36 h2
      have kv3 : KR v v3 := by rw [k4]; exact (kk.tr k2).up (Or.inl rfl) _
      have hD3 : v3 0 13 = nI D := by rw [kv3 0 13 (by omega)]; exact hD
      rw [e3, z_b2s, e4, z_b2s]
      cases x with
      | false =>
        obtain ⟨h3, rfl⟩ := hf rfl
        rw [if_neg Bool.false_ne_true, if_neg Bool.false_ne_true]
        obtain ⟨a, bb, e5, e6, o⟩ := j_plain h3 hN hk
        obtain ⟨b9, v9⟩ := bb
        rw [e5, e6, z_b2s]
        exact ⟨_, _, b9, v9, rfl, rfl, (o.tr ND.rf (Nat.le_refl _) (Nat.le_refl _) (fun _ _ _ _ _ => rfl) kv3).mono (by omega)⟩
      | true =>
        obtain ⟨p1, h3⟩ := ht rfl
        rw [if_pos rfl, if_pos rfl, hD3, if_neg hn6, zl, if_pos (show bI false = 0 from rfl), zl, nI_1]
        have hw11 : (z_up v3 0 13 (nI (D + 1))) 0 11 = v3 0 11 := zupo (by omega)
        rw [hw11]
        have kd : KD (z_up v3 0 11 (v3 0 11 + 1)) (z_up (z_up v3 0 13 (nI (D + 1))) 0 11 (v3 0 11 + 1)) := fun r j hj => by
          by_cases e : r = 0 ∧ j = 11
          · rw [e.1, e.2, zupe, zupe]
          · rw [zupo e, zupo hj, zupo e]
        have hw13 : (z_up (z_up v3 0 13 (nI (D + 1))) 0 11 (v3 0 11 + 1)) 0 13 = nI (D + 1) := by rw [zupo (by omega), zupe]
        have kv4 : KR v (z_up v3 0 11 (v3 0 11 + 1)) := kv3.up (Or.inl rfl) _
        generalize z_up (z_up v3 0 13 (nI (D + 1))) 0 11 (v3 0 11 + 1) = w at kd hw13
        generalize z_up v3 0 11 (v3 0 11 + 1) = v4 at h3 kd kv4
        obtain ⟨xa, u3, b2, w', e5, e6, o, kl, kr⟩ := j_cond hA (h3.d kd) (hN.kc k3) (by omega) hw13
        have hw' : w' 0 13 = nI (D + 1) := by rw [kr 0 13 (by omega)]; exact hw13
        rw [e5, z_b2s, e6, z_b2s]
        have hm1 : nI (D + 1) - 1 = nI D := nI_sb (a := D + 1) (b := 1) (by omega)
        rcases o with ⟨i', p', k', b1, b2', b3, b4, b5, b6, b7, b8⟩ | ⟨f, fk⟩
        · rw [if_pos b1.2.2.2.1]
          obtain ⟨x, u4, w2, e7, e8, k5, k6, ht, hf⟩ := j_sign s37 b1
          have kw2 : KR w w2 := by rw [k6]; exact kr.up (Or.inl rfl) _
          rw [f_X8_must_e, e7, z_b2s, e8, z_b2s]
          cases x with
          | true =>
            obtain ⟨p2, h4⟩ := ht rfl
            have kw3 : KR w (z_up w2 0 11 (w2 0 11 + 1)) := kw2.up (Or.inl rfl) _
            rw [if_pos rfl, if_pos rfl, Option.bind_some, zl, zl, b01b, Option.bind_some]
            generalize z_up w2 0 11 (w2 0 11 + 1) = w3 at h4 kw3
            have hw3 : w3 0 13 = nI (D + 1) := by rw [kw3 0 13 (by omega)]; exact hw13
            rw [hw3, hm1]
            have kd2 := KD.up w3 (nI D)
            refine ⟨xa, u4, b2, _, rfl, rfl, Or.inl ⟨i' + 1, p2, k', h4.d kd2, b2'.kc k5, b3, b4, by omega, ((k3.nd k).tr b6 (Nat.le_refl _)).tr (k5.nd k') b4, b7, ?_⟩, (k3.l.tr kl).tr k5.l, kr13 kv4 kd kw3 kd2 (by rw [zupe, hD])⟩
            rw [EVu_kc k5, ← kv4.fv, ← kd.fv]
            exact b8
          | false =>
            obtain ⟨h4, rfl⟩ := hf rfl
            obtain ⟨u5, e9, k7, f, k8⟩ := j_refuse h4 (skp_id b1.2.2.2.2.2.1)
            rw [if_neg Bool.false_ne_true, if_neg Bool.false_ne_true, e9, Option.bind_some, Option.bind_some, zl, zl, zl, b01b, Option.bind_some]
            have f1 := f.p1
            have kw3 : KR w (z_up (f_X11_wrong (w2 0 11) w2) 0 11 ((f_X11_wrong (w2 0 11) w2) 0 11 + 1)) := (kw2.tr k8).up (Or.inl rfl) _
            generalize z_up (f_X11_wrong (w2 0 11) w2) 0 11 ((f_X11_wrong (w2 0 11) w2) 0 11 + 1) = w3 at f1 kw3
            have hw3 : w3 0 13 = nI (D + 1) := by rw [kw3 0 13 (by omega)]; exact hw13
            rw [hw3, hm1]
            have kd2 := KD.up w3 (nI D)
            have hN' := b2'.kc k7
            exact ⟨xa, u5, b2, _, rfl, rfl, Or.inr ⟨(f1.d kd2).mono (by omega), k', hN'.2.2.1, hN'.1⟩, (k3.l.tr kl).tr k7.l, kr13 kv4 kd kw3 kd2 (by rw [zupe, hD])⟩
        · have fn := f.n fk
          rw [if_neg f.r, fn.mu s37, Option.bind_some, zl, zl, b01b, Option.bind_some]
          have f1 := f.p1
          have kw3 : KR w (z_up w' 0 11 (w' 0 11 + 1)) := kr.up (Or.inl rfl) _
          generalize z_up w' 0 11 (w' 0 11 + 1) = w3 at f1 kw3
          have hw3 : w3 0 13 = nI (D + 1) := by rw [kw3 0 13 (by omega)]; exact hw13
          rw [hw3, hm1]
          have kd2 := KD.up w3 (nI D)
          exact ⟨xa, u3, b2, _, rfl, rfl, Or.inr ⟨f1.d kd2, fk⟩, k3.l.tr kl, kr13 kv4 kd kw3 kd2 (by rw [zupe, hD])⟩
  · obtain rfl : D = 6 := by omega
    rw [f_X5_readAtom_t, if_pos (show (6 : Int32) ≤ nI 6 by decide)]
    obtain ⟨ur, er, kr, fr⟩ := j_ref h1
    rw [hid] at fr
    have hNr := hN.kc kr
    have hbad : ∀ v3, KR v v3 → TX t n v3 → v3 0 12 = -1 → (∃ q, v3 0 11 = nI q ∧ q ≤ n) → (∀ a, a ∈ [38, 39, 43, 25, 27, 19, 44, 45, 21] → hasB t n b a = false) → (b < n → isDi (t b) = false) → ∃ x u' bb v', cPl u = some (x, u') ∧ some (false, f_X11_wrong (nI b) v3) = some (bb, v') ∧ PO t n (g + 1 + 1) n0 i k u v x u' (bI bb) v' := fun v3 a1 a2 a3 a4 a5 a6 => by
      obtain ⟨q, a4, a7⟩ := a4
      have f := fr v3 q 0 a2 a3 a4 (by omega)
      have hv : f_X8_value u = some (-1) := by
        rcases j_val h1 with ⟨m, v', p', hm, c1, c2, k5, h3, ⟨d1, d2⟩, c3⟩ | ⟨c1, -⟩
        · rw [hid] at d1 d2
          rw [a6 d1] at d2
          cases d2
        · exact c1
      have fn := f.n ⟨k, hNr.2.2.1, hNr.1⟩
      obtain ⟨x, u', c1, nf⟩ := cPl_bad (k := k) h1 (by rw [hid]; exact a5) hv er fn
      exact ⟨x, u', false, _, c1, rfl, Or.inr ⟨(f.nf nf).mono (by omega), nf.2⟩, kr.l.tr nf.l, a1.wr _⟩
    have hw9 : ∀ a, a ∈ [38, 39, 43, 25, 27, 19, 44, 45, 21] → wok a ∧ sLen.getD 35 0 ≠ sLen.getD a 0 := by
      intro a ha
      have hl : ∀ a, a ∈ [38, 39, 43, 25, 27, 19, 44, 45, 21] → sLen.getD 35 0 ≠ sLen.getD a 0 := by decide
      refine ⟨?_, hl a ha⟩
      rcases List.mem_cons.mp ha with rfl | ha
      · exact w38
      · rcases List.mem_cons.mp ha with rfl | ha
        · exact w39
        · exact wok7 a ha
    cases x with
    | true =>
      obtain ⟨p1, h2⟩ := ht rfl
      rw [e2] at hB
      injection hB with hB
      injection hB with hB _
      rw [if_neg (show ¬ bI true = 0 by decide), hD2, if_pos (by decide), zl]
      refine hbad v2 (kk.tr k2) h2.2.1 h2.2.2.2.1 ⟨p1, h2.2.2.2.2.1, h2.2.2.2.2.2.1⟩ (fun a ha => hasB_ne hB.symm 0 (Or.inl (hw9 a ha).2)) (fun hb => ?_)
      cases hd : isDi (t b) with
      | false => rfl
      | true =>
        have := hasB_nl (a := 35) hb (isDi_nle hd) w35
        rw [← hB] at this
        cases this
    | false =>
      obtain ⟨h2, rfl, -⟩ := hf rfl
      rw [if_pos (show bI false = 0 from rfl)]
      obtain ⟨x, u2, v3, e3, e4, k3, k4, ht, hf⟩ := j_sign s36 h2
      have kv3 : KR v v3 := by rw [k4]; exact (kk.tr k2).up (Or.inl rfl) _
      have hD3 : v3 0 13 = nI 6 := by rw [kv3 0 13 (by omega)]; exact hD
      rw [e4, z_b2s]
      cases x with
      | true =>
        have hsg := pr_sign h2.2.1.r h2.2.2.2.2.2.1 h2.2.2.2.2.1 40
        rw [hid, hid] at hsg
        rw [e4] at hsg
        injection hsg with hsg
        injection hsg with hsg _
        have hsg := of_decide_eq_true hsg.symm
        rw [if_pos rfl, hD3, if_pos (by decide), zl]
        have h11 : v3 0 11 = nI b := by rw [k4, zupe, hid, hid]
        refine hbad v3 kv3 (h.2.1.kr kv3) ?_ ⟨b, h11, by omega⟩ (fun a ha => hasB_nl hsg.1 (by rw [hsg.2]; decide) (hw9 a ha).1) (fun _ => by rw [hsg.2]; decide)
        rw [k4, zupo (by omega)]; exact h2.2.2.2.1
      | false =>
        obtain ⟨h3, rfl⟩ := hf rfl
        rw [if_neg Bool.false_ne_true]
        obtain ⟨a, bb, e5, e6, o⟩ := j_plain h3 hN hk
        obtain ⟨b9, v9⟩ := bb
        rw [e5, e6, z_b2s]
        exact ⟨_, _, b9, v9, rfl, rfl, (o.tr ND.rf (Nat.le_refl _) (Nat.le_refl _) (fun _ _ _ _ _ => rfl) kv3).mono (by omega)⟩
