/-! PURE, 61: nodes, parts and sums in step -/
/-- the facts that the reference has in its world -/
def Fac (v : zU) : Nat → Int32 := fun j => if j < 7 then v 6 j else if j = 7 then bI (zbt (v 0 15)) else bI (zbt (v 0 16))
theorem Fac_e {v v' : zU} (h6 : v' 6 = v 6) (h15 : v' 0 15 = v 0 15) (h16 : v' 0 16 = v 0 16) : Fac v' = Fac v := by unfold Fac; rw [h6, h15, h16]
theorem KR.fv {v v' : zU} (h : KR v v') : Fac v' = Fac v := Fac_e (funext fun j => h 6 j (by omega)) (h 0 15 (by omega)) (h 0 16 (by omega))
def EVu (u : zU) (F : Nat → Int32) (n0 k x : Nat) : Int32 := EV (u 33) (u 34) (u 35) F n0 k x
/-- the class's nodes, from n0 up to k -/
def NDS (u : zU) (n0 k : Nat) : Prop := u 29 9 = nI k ∧ n0 ≤ k ∧ k ≤ 400 ∧ ∀ i, n0 ≤ i → i < k → NV (u 33 i) (u 34 i) (u 35 i) n0 i
def ND (k : Nat) (u u' : zU) : Prop := ∀ j, j < k → u' 33 j = u 33 j ∧ u' 34 j = u 34 j ∧ u' 35 j = u 35 j
def KL (u u' : zU) : Prop := ∀ r j, ¬ (r = 3 ∧ (j = 4 ∨ j = 5)) → ¬ (r = 29 ∧ j = 9) → ¬ (33 ≤ r ∧ r ≤ 35) → u' r j = u r j
/-- what a node leaves -/
def NFr (u u' : zU) : Prop := (∀ r j, ¬ (r = 29 ∧ j = 9) → ¬ (33 ≤ r ∧ r ≤ 35) → u' r j = u r j) ∧ ∃ k, k ≤ 400 ∧ u' 29 9 = nI k
theorem KC.l {u u' : zU} (h : KC u u') : KL u u' := fun r j a _ _ => h r j a
theorem NFr.l {u u' : zU} (h : NFr u u') : KL u u' := fun r j _ b c => h.1 r j b c
theorem KL.tr {u u1 u2 : zU} (h : KL u u1) (k : KL u1 u2) : KL u u2 := fun r j a b c => (k r j a b c).trans (h r j a b c)
theorem NFr.tr {u u1 u2 : zU} (h : NFr u u1) (k : NFr u1 u2) : NFr u u2 := ⟨fun r j a b => (k.1 r j a b).trans (h.1 r j a b), k.2⟩
theorem ND.rf {k : Nat} {u : zU} : ND k u u := fun _ _ => ⟨rfl, rfl, rfl⟩
theorem ND.tr {k k1 : Nat} {u u1 u2 : zU} (h : ND k u u1) (h2 : ND k1 u1 u2) (hk : k ≤ k1) : ND k u u2 := fun j hj => by
  obtain ⟨a1, a2, a3⟩ := h j hj
  obtain ⟨b1, b2, b3⟩ := h2 j (by omega)
  exact ⟨b1.trans a1, b2.trans a2, b3.trans a3⟩
theorem KC.nd {u u' : zU} (h : KC u u') (k : Nat) : ND k u u' := fun j _ => ⟨h 33 j (by omega), h 34 j (by omega), h 35 j (by omega)⟩
theorem KC.nr {u u' : zU} (h : KC u u') : u' 33 = u 33 ∧ u' 34 = u 34 ∧ u' 35 = u 35 ∧ u' 29 = u 29 := ⟨funext fun j => h 33 j (by omega), funext fun j => h 34 j (by omega), funext fun j => h 35 j (by omega), funext fun j => h 29 j (by omega)⟩
theorem NDS.kc {u u' : zU} {n0 k : Nat} (h : NDS u n0 k) (c : KC u u') : NDS u' n0 k := by
  obtain ⟨a, b, d, e⟩ := c.nr
  unfold NDS
  rw [a, b, d, e]
  exact h
theorem EVu_kc {u u' : zU} (c : KC u u') (F : Nat → Int32) (n0 k x : Nat) : EVu u' F n0 k x = EVu u F n0 k x := by
  obtain ⟨a, b, d, -⟩ := c.nr
  unfold EVu
  rw [a, b, d]
theorem NDS.ev {u u' : zU} {n0 k k' : Nat} (h : NDS u n0 k) (h' : ND k u u') (hk : k ≤ k') (hk4 : k' ≤ 400) {x : Nat} (h1 : n0 ≤ x) (h2 : x < k) (F : Nat → Int32) : EVu u' F n0 k' x = EVu u F n0 k x := by
  unfold EVu
  exact (EV_ext (fun _ _ => rfl) (by omega) hk (fun i a b => ⟨h.2.2.2 i a b, (h' i b).1.symm, (h' i b).2.1.symm, (h' i b).2.2.symm⟩) h1 h2).symm
/-- the class behind a fault, with its count of nodes -/
def FN (t : Nat → Int32) (n : Nat) (u : zU) : Prop := FCs t n u ∧ ∃ k, k ≤ 400 ∧ u 29 9 = nI k
theorem FN.k {t : Nat → Int32} {n : Nat} {u u' : zU} (h : FN t n u) (k : NFr u u') : FN t n u' := by
  have e : ∀ r, r < 6 → u' r = u r := fun r hr => funext fun j => k.1 r j (by omega) (by omega)
  obtain ⟨⟨h1, h2, h3⟩, -⟩ := h
  exact ⟨⟨h1.k (e 2 (by decide)) (by rw [e 3 (by decide)]) (e 4 (by decide)) (e 5 (by decide)), by rw [e 3 (by decide)]; exact h2, by rw [e 3 (by decide)]; exact h3⟩, k.2⟩
theorem FAs.nf {t : Nat → Int32} {n e : Nat} {u u' v : zU} (h : FAs t n e u v) (k : NFr u u') : FAs t n e u' v := by
  have e : ∀ r, r < 6 → u' r = u r := fun r hr => funext fun j => k.1 r j (by omega) (by omega)
  exact h.kk (e 2 (by decide)) (e 3 (by decide)) (e 4 (by decide)) (e 5 (by decide))
theorem NFr.rf {t : Nat → Int32} {n : Nat} {u : zU} (h : FN t n u) : NFr u u := ⟨fun _ _ _ _ => rfl, h.2⟩
def ndu (u : zU) (k : Nat) (a b c : Int32) : zU := z_up (z_up (z_up (z_up u 33 k a) 34 k b) 35 k c) 29 9 (nI (k + 1))
theorem pc_node {u : zU} {k : Nat} (h : u 29 9 = nI k) (hk : k < 400) (a b c : Int32) : f_X5_node a b c u = some (nI k, ndu u k a b c) := by
  have hin := pu_in hk (show 400 < 2 ^ 31 by decide)
  rw [f_X5_node_e, h, if_pos (show nI k < 400 from nI_lt (b := 400) hk (by decide)), if_pos hin, zl, nI_clamp (by omega)]
  rw [show (z_up u 33 k a) 29 9 = nI k from h, if_pos hin, zl, nI_clamp (by omega)]
  rw [show (z_up (z_up u 33 k a) 34 k b) 29 9 = nI k from h, if_pos hin, zl, nI_clamp (by omega)]
  rw [show (z_up (z_up (z_up u 33 k a) 34 k b) 35 k c) 29 9 = nI k from h, zl, nI_1]
  rw [show (z_up (z_up (z_up (z_up u 33 k a) 34 k b) 35 k c) 29 9 (nI (k + 1))) 29 9 = nI (k + 1) from rfl, show nI (k + 1) - 1 = nI k from nI_sb (a := k + 1) (b := 1) (by omega)]
  rfl
theorem ndu_fr (u : zU) (k : Nat) (hk : k < 400) (a b c : Int32) : NFr u (ndu u k a b c) := ⟨fun r j h1 h2 => by
  unfold ndu
  rw [zupo h1, zupo (by omega), zupo (by omega), zupo (by omega)], k + 1, by omega, rfl⟩
theorem pc_nodeF {u : zU} {k : Nat} (h : u 29 9 = nI k) (hk : k ≤ 400) (a b c : Int32) : ∃ x u', f_X5_node a b c u = some (x, u') ∧ NFr u u' := by
  by_cases e : k < 400
  · exact ⟨_, _, pc_node h e a b c, ndu_fr u k e a b c⟩
  · refine ⟨-1, u, ?_, fun _ _ _ _ => rfl, k, hk, h⟩
    rw [f_X5_node_e, h, if_neg (show ¬ nI k < 400 from nI_nlt (b := 400) (by omega) (by omega))]
theorem FN.nd {t : Nat → Int32} {n : Nat} {u : zU} (h : FN t n u) (a b c : Int32) : ∃ x u', f_X5_node a b c u = some (x, u') ∧ NFr u u' := by
  obtain ⟨k, hk, e⟩ := h.2
  exact pc_nodeF e hk a b c
theorem j_node {t : Nat → Int32} {n i p n0 k : Nat} {u v : zU} (h : OKs t n i p u v) (hN : NDS u n0 k) (hk : k < 400) {a b c : Int32} (hv : NV a b c n0 k) : f_X5_node a b c u = some (nI k, ndu u k a b c) ∧ OKs t n i p (ndu u k a b c) v ∧ NDS (ndu u k a b c) n0 (k + 1) ∧ ND k u (ndu u k a b c) ∧ KL u (ndu u k a b c) ∧ ∀ F, EVu (ndu u k a b c) F n0 (k + 1) k = wvN a b c F k (EVu u F n0 k) := by
  have e33 : (ndu u k a b c) 33 = upd (u 33) k a := rfl
  have e34 : (ndu u k a b c) 34 = upd (u 34) k b := rfl
  have e35 : (ndu u k a b c) 35 = upd (u 35) k c := rfl
  have hd : ND k u (ndu u k a b c) := fun j hj => by rw [e33, e34, e35, upd_ne (by omega), upd_ne (by omega), upd_ne (by omega)]; exact ⟨rfl, rfl, rfl⟩
  have hfr := ndu_fr u k hk a b c
  refine ⟨pc_node hN.1 hk a b c, h.kk rfl rfl rfl rfl rfl rfl (fun _ _ => rfl), ⟨rfl, by have := hN.2.1; omega, by omega, fun j h1 h2 => ?_⟩, hd, hfr.l, fun F => ?_⟩
  · by_cases e : j = k
    · subst e; rw [e33, e34, e35, upd_eq, upd_eq, upd_eq]; exact hv
    · obtain ⟨a1, a2, a3⟩ := hd j (by omega)
      rw [a1, a2, a3]; exact hN.2.2.2 j h1 (by omega)
  · show EV _ _ _ F n0 (k + 1) k = _
    rw [EV_new hN.2.1, e33, e34, e35, upd_eq, upd_eq, upd_eq]
    exact wvN_ext (by omega) hv (fun _ _ => rfl) (fun j h1 h2 => hN.ev hd (Nat.le_refl _) (by omega) h1 h2 F)
/-- what a part of the law's reading leaves: the class's root x and the reference's worth y -/
def PO (t : Nat → Int32) (n e n0 i k : Nat) (u v : zU) (x : Int32) (u' : zU) (y : Int32) (v' : zU) : Prop := ((∃ i' p' k', OKs t n i' p' u' v' ∧ NDS u' n0 k' ∧ n0 < k' ∧ k ≤ k' ∧ k' + i ≤ k + i' ∧ ND k u u' ∧ x = nI (k' - 1) ∧ EVu u' (Fac v) n0 k' (k' - 1) = y) ∨ (FAs t n e u' v' ∧ ∃ k', k' ≤ 400 ∧ u' 29 9 = nI k')) ∧ KL u u' ∧ KR v v'
theorem PO.tr {t : Nat → Int32} {n e n0 i k i1 k1 : Nat} {u v u1 v1 u' v' : zU} {x y : Int32} (h : PO t n e n0 i1 k1 u1 v1 x u' y v') (hd : ND k u u1) (hk : k ≤ k1) (hi : k1 + i ≤ k + i1) (hl : KL u u1) (hr : KR v v1) : PO t n e n0 i k u v x u' y v' := by
  obtain ⟨o, a, b⟩ := h
  refine ⟨?_, hl.tr a, hr.tr b⟩
  rcases o with ⟨i', p', k', b1, b2, b3, b4, b5, b6, b7, b8⟩ | f
  · exact Or.inl ⟨i', p', k', b1, b2, b3, by omega, by omega, hd.tr b6 hk, b7, by rw [← hr.fv]; exact b8⟩
  · exact Or.inr f
theorem FAs.mono {t : Nat → Int32} {n e e' : Nat} {u v : zU} (h : FAs t n e u v) (he : e ≤ e') : FAs t n e' u v := by
  obtain ⟨h1, h2, h3, h4, p, h5, h6⟩ := h
  exact ⟨h1, h2, h3, h4, p, h5, by omega⟩
theorem PO.mono {t : Nat → Int32} {n e e' n0 i k : Nat} {u v u' v' : zU} {x y : Int32} (h : PO t n e n0 i k u v x u' y v') (he : e ≤ e') : PO t n e' n0 i k u v x u' y v' :=
  ⟨h.1.imp id (fun ⟨f, g⟩ => ⟨f.mono he, g⟩), h.2⟩
theorem FAs.n {t : Nat → Int32} {n e : Nat} {u v : zU} (f : FAs t n e u v) (h : ∃ k', k' ≤ 400 ∧ u 29 9 = nI k') : FN t n u := ⟨f.c, h⟩
theorem w43 : wok 43 := by unfold wok; decide +kernel
theorem w44 : wok 44 := by unfold wok; decide +kernel
theorem w45 : wok 45 := by unfold wok; decide +kernel
def cW (u : zU) : Option (Int32 × zU) := (z_b2 (f_X8_takes 43 u) (fun t2 u3 => if t2 = true then (z_b2 (f_X5_node (1 : Int32) (0 : Int32) (-1 : Int32) u3) (fun r31 u32 => some (r31, u32))) else (z_b2 (f_X8_takes 25 u3) (fun t4 u5 => if t4 = true then (z_b2 (f_X5_node (1 : Int32) (1 : Int32) (-1 : Int32) u5) (fun r29 u30 => some (r29, u30))) else (z_b2 (f_X8_takes 27 u5) (fun t6 u7 => if t6 = true then (z_b2 (f_X5_node (1 : Int32) (2 : Int32) (-1 : Int32) u7) (fun r27 u28 => some (r27, u28))) else (z_b2 (f_X8_takes 19 u7) (fun t8 u9 => if t8 = true then (z_b2 (f_X5_node (1 : Int32) (3 : Int32) (-1 : Int32) u9) (fun r25 u26 => some (r25, u26))) else (z_b2 (f_X8_takes 44 u9) (fun t10 u11 => if t10 = true then (z_b2 (f_X5_node (1 : Int32) (4 : Int32) (-1 : Int32) u11) (fun r23 u24 => some (r23, u24))) else (z_b2 (f_X8_takes 45 u11) (fun t12 u13 => if t12 = true then (z_b2 (f_X5_node (1 : Int32) (5 : Int32) (-1 : Int32) u13) (fun r21 u22 => some (r21, u22))) else (z_b2 (f_X8_takes 21 u13) (fun t14 u15 => if t14 = true then (z_b2 (f_X5_node (1 : Int32) (6 : Int32) (-1 : Int32) u15) (fun r19 u20 => some (r19, u20))) else ((f_X8_refuse u15).bind (fun u16 => z_b2 (f_X5_node (1 : Int32) (-1 : Int32) (-1 : Int32) u16) (fun r17 u18 => some (r17, u18))))))))))))))))))
def rW (u1 : zU) : Option (Int32 × zU) := (z_b2 (f_X11_has 43 u1) (fun t2 u3 => if t2 = true then (some (u3 6 0, u3)) else (z_b2 (f_X11_has 25 u3) (fun t4 u5 => if t4 = true then (some (u5 6 1, u5)) else (z_b2 (f_X11_has 27 u5) (fun t6 u7 => if t6 = true then (some (u7 6 2, u7)) else (z_b2 (f_X11_has 19 u7) (fun t8 u9 => if t8 = true then (some (u9 6 3, u9)) else (z_b2 (f_X11_has 44 u9) (fun t10 u11 => if t10 = true then (some (u11 6 4, u11)) else (z_b2 (f_X11_has 45 u11) (fun t12 u13 => if t12 = true then (some (u13 6 5, u13)) else (z_b2 (f_X11_has 21 u13) (fun t14 u15 => if t14 = true then (some (u15 6 6, u15)) else (z_let (f_X11_wrong (u15 0 11) u15) (fun u16 => some ((0 : Int32), u16)))))))))))))))))
theorem f_X5_readPart_t (u : zU) : f_X5_readPart u = (f_X8_value u).bind (fun r1 => if r1 = (-1 : Int32) then cW u else (z_let (f_X8_pass u) (fun u33 => z_b2 (f_X5_node (0 : Int32) r1 (-1 : Int32) u33) (fun r34 u35 => some (r34, u35))))) := rfl
theorem f_X11_part_t (u : zU) : f_X11_part u = if (u 0 12) = (-1 : Int32) then ((f_X11_skip u).bind (fun u1 => if (u1 0 10) ≤ (u1 0 11) then rW u1 else ((f_X11_letter (u1 0 11) u1).bind (fun r17 => z_let (f_X11_isIn r17 (48 : Int32) (57 : Int32) u1) (fun t18 => if t18 = true then (z_b2 (f_X11_figures (0 : Int32) (999 : Int32) u1) (fun r34 u35 => some (r34, u35))) else rW u1))))) else (some ((0 : Int32), u)) := rfl
/-- a fact's word taken by the class, and its node -/
theorem j_fact {t : Nat → Int32} {n i p n0 k j : Nat} {u v : zU} {y : Int32} (h : OKs t n (i + 1) p u v) (hN : NDS u n0 k) (hk : k ≤ i) (hj : j < 9) (hy : Fac v j = y) : ∃ a, z_b2 (f_X5_node 1 (nI j) (-1) u) (fun r31 u32 => some (r31, u32)) = some a ∧ PO t n 0 n0 i k u v a.1 a.2 y v := by
  have hi := h.2.2.1.2.2
  have hn4 := h.1.1
  obtain ⟨e1, e2, e3, e4, e5, e6⟩ := j_node h hN (by omega) (a := 1) (b := nI j) (c := -1) (Or.inr (Or.inl rfl))
  refine ⟨_, by rw [e1, z_b2s], Or.inl ⟨i + 1, p, k + 1, e2, e3, by have := hN.2.1; omega, by omega, by omega, e4, by rw [Nat.add_sub_cancel], ?_⟩, e5, KR.rf⟩
  rw [Nat.add_sub_cancel, e6]
  unfold wvN
  rw [if_neg (by decide), if_pos rfl, if_neg (nI_pos (by omega)), if_neg (show ¬ (9 : Int32) ≤ nI j from nI_ge (b := 9) hj (by decide)), nI_clamp (by omega)]
  exact hy
theorem j_words {t : Nat → Int32} {n i p n0 k : Nat} {u v : zU} (h : OKs t n i p u v) (hN : NDS u n0 k) (hk : k ≤ i) : ∃ a b, cW u = some a ∧ rW v = some b ∧ PO t n 0 n0 i k u v a.1 a.2 b.1 b.2 := by
  have hf : ∀ {q j : Nat} {u' v' : zU}, KC u u' → KR v v' → OKs t n (i + 1) q u' v' → j < 7 → ∃ a b, z_b2 (f_X5_node 1 (nI j) (-1) u') (fun r31 u32 => some (r31, u32)) = some a ∧ some (v' 6 j, v') = some b ∧ PO t n 0 n0 i k u v a.1 a.2 b.1 b.2 := fun {q j u' v'} k1 k2 h1 hj => by
    obtain ⟨a, e1, e2⟩ := j_fact h1 (hN.kc k1) hk (show j < 9 by omega) (show Fac v' j = v' 6 j from if_pos hj)
    exact ⟨a, _, e1, rfl, e2.tr (k1.nd k) (Nat.le_refl _) (Nat.le_refl _) k1.l k2⟩
  unfold cW rW
  refine j_alt w43 h _ (fun p' u' v' k1 k2 h1 => hf (j := 0) k1 k2 h1 (by decide)) (fun p' v1 k2 _ q1 h1 => ?_)
  have k2a := k2
  refine j_alt w25 h1 _ (fun p' u' v' k1 k2 h1 => hf (j := 1) k1 (k2a.tr k2) h1 (by decide)) (fun p' v1 k2 _ q1 h1 => ?_)
  have k2a := k2a.tr k2
  refine j_alt w27 h1 _ (fun p' u' v' k1 k2 h1 => hf (j := 2) k1 (k2a.tr k2) h1 (by decide)) (fun p' v1 k2 _ q1 h1 => ?_)
  have k2a := k2a.tr k2
  refine j_alt w19 h1 _ (fun p' u' v' k1 k2 h1 => hf (j := 3) k1 (k2a.tr k2) h1 (by decide)) (fun p' v1 k2 _ q1 h1 => ?_)
  have k2a := k2a.tr k2
  refine j_alt w44 h1 _ (fun p' u' v' k1 k2 h1 => hf (j := 4) k1 (k2a.tr k2) h1 (by decide)) (fun p' v1 k2 _ q1 h1 => ?_)
  have k2a := k2a.tr k2
  refine j_alt w45 h1 _ (fun p' u' v' k1 k2 h1 => hf (j := 5) k1 (k2a.tr k2) h1 (by decide)) (fun p' v1 k2 _ q1 h1 => ?_)
  have k2a := k2a.tr k2
  refine j_alt w21 h1 _ (fun p' u' v' k1 k2 h1 => hf (j := 6) k1 (k2a.tr k2) h1 (by decide)) (fun p' v1 k2 _ q1 h1 => ?_)
  have k2a := k2a.tr k2
  obtain ⟨u', e1, k3, f, k4⟩ := j_refuse h1 q1
  have hN' := hN.kc k3
  have fn := f.n ⟨k, hN'.2.2.1, hN'.1⟩
  obtain ⟨x, u2, e2, nf⟩ := fn.nd 1 (-1) (-1)
  exact ⟨(x, u2), _, by rw [e1, Option.bind_some, e2, z_b2s], by rw [zl], Or.inr ⟨f.nf nf, nf.2⟩, k3.l.tr nf.l, k2a.tr k4⟩
/-- where no word of a fact stands, and no number, the class refuses -/
theorem cW_bad {t : Nat → Int32} {n i p : Nat} {u v : zU} (h : OKs t n i p u v) (hb : ∀ a, a ∈ [43, 25, 27, 19, 44, 45, 21] → hasB t n (skp t (n - p) p) a = false) {ur : zU} (er : f_X8_refuse u = some ur) : cW u = z_b2 (f_X5_node (1 : Int32) (-1 : Int32) (-1 : Int32) ur) (fun r17 u18 => some (r17, u18)) := by
  have f1 := h.tkf w43 (hb 43 (by decide))
  have f2 := h.tkf w25 (hb 25 (by decide))
  have f3 := h.tkf w27 (hb 27 (by decide))
  have f4 := h.tkf w19 (hb 19 (by decide))
  have f5 := h.tkf w44 (hb 44 (by decide))
  have f6 := h.tkf w45 (hb 45 (by decide))
  have f7 := h.tkf w21 (hb 21 (by decide))
  unfold cW
  rw [f1, z_b2s, if_neg Bool.false_ne_true, f2, z_b2s, if_neg Bool.false_ne_true, f3, z_b2s, if_neg Bool.false_ne_true, f4, z_b2s, if_neg Bool.false_ne_true, f5, z_b2s, if_neg Bool.false_ne_true, f6, z_b2s, if_neg Bool.false_ne_true, f7, z_b2s, if_neg Bool.false_ne_true, er, Option.bind_some]
theorem hasB_nl {t : Nat → Int32} {n b a : Nat} (hb : b < n) (h : isLe (t b) = false) (ha : wok a) : hasB t n b a = false := by
  unfold hasB
  rw [show run isLe t (n - b) b = b by rw [show n - b = (n - b - 1) + 1 by omega]; exact if_neg (by rw [h]; exact Bool.false_ne_true), decide_eq_false (by have := ha.2.1; omega), Bool.false_and]
theorem wok7 : ∀ a, a ∈ [43, 25, 27, 19, 44, 45, 21] → wok a := by
  intro a ha
  simp only [List.mem_cons, List.not_mem_nil, or_false] at ha
  rcases ha with rfl | rfl | rfl | rfl | rfl | rfl | rfl
  · exact w43
  · exact w25
  · exact w27
  · exact w19
  · exact w44
  · exact w45
  · exact w21
theorem j_part {t : Nat → Int32} {n i p n0 k : Nat} {u v : zU} (h : OKs t n i p u v) (hN : NDS u n0 k) (hk : k ≤ i) : ∃ a b, f_X5_readPart u = some a ∧ f_X11_part v = some b ∧ PO t n 0 n0 i k u v a.1 a.2 b.1 b.2 := by
  have hp := h.2.2.2.2.2.1
  have hn := h.2.1.1
  have hn4 := h.1.1
  have hsk := pr_skipE h.2.1.r hp h.2.2.2.2.1
  have h1 := h.sk
  have hid := skp_id (t := t) hp
  have hle := skp_le t (n - p) p
  have kk : KR v (z_up v 0 11 (nI (skp t (n - p) p))) := KR.rf.up (Or.inl rfl) _
  generalize z_up v 0 11 (nI (skp t (n - p) p)) = v1 at hsk h1 kk
  generalize skp t (n - p) p = b at hid h1 hle
  have h11 := h1.2.2.2.2.1
  have hX := h1.2.1.r
  have hrp : f_X11_part v = if nI n ≤ nI b then rW v1 else ((f_X11_letter (nI b) v1).bind (fun r17 => z_let (f_X11_isIn r17 (48 : Int32) (57 : Int32) v1) (fun t18 => if t18 = true then (z_b2 (f_X11_figures (0 : Int32) (999 : Int32) v1) (fun r34 u35 => some (r34, u35))) else rW v1))) := by
    rw [f_X11_part_t, if_pos h.2.2.2.1, hsk, Option.bind_some, h1.2.1.2.1, h11]
  have hdig : b < n → isDi (t b) = true → f_X11_part v = z_b2 (f_X11_figures (0 : Int32) (999 : Int32) v1) (fun r34 u35 => some (r34, u35)) := fun hb hd => by
    rw [hrp, if_neg (nI_ge hb (by omega)), hX.at hb, Option.bind_some, zl, pr_isIn]
    exact if_pos hd
  rcases j_val h1 with ⟨m, v', p', hm, c1, c2, k5, h3, ⟨d1, d2⟩, c3⟩ | ⟨c1, ur, c2, k5, c3⟩
  · rw [hid] at d1 d2 c3
    have hi := h3.2.2.1.2.2
    have kc : KC u (z_up u 3 4 (nI (i + 1))) := KC.rf.up (Or.inl rfl) _
    obtain ⟨e1, e2, e3, e4, e5, e6⟩ := j_node h3 (hN.kc kc) (by omega) (a := 0) (b := nI m) (c := -1) (Or.inl rfl)
    refine ⟨(nI k, ndu (z_up u 3 4 (nI (i + 1))) k 0 (nI m) (-1)), (nI m, v'), ?_, ?_, Or.inl ⟨i + 1, p', k + 1, e2, e3, by have := hN.2.1; omega, by omega, by omega, (kc.nd k).tr e4 (Nat.le_refl _), by rw [Nat.add_sub_cancel], ?_⟩, kc.l.tr e5, kk.tr k5⟩
    · rw [f_X5_readPart_t, c1, Option.bind_some, if_neg (pu_m1 (by omega)), c2, zl, e1, z_b2s]
    · rw [hdig d1 d2, (c3 0 999).trans (if_neg (by
        rintro (q | q)
        · exact nI_pos (by omega) q
        · exact q (nI_le (b := 999) hm (by decide)))), z_b2s]
    · rw [Nat.add_sub_cancel, e6]; rfl
  · have hcp : f_X5_readPart u = cW u := by rw [f_X5_readPart_t, c1, Option.bind_some, if_pos rfl]
    rw [hcp]
    by_cases hd : b < n ∧ isDi (t b) = true
    · obtain ⟨y, v', c4, k6, f⟩ := c3 0 999
      have hN' := hN.kc k5
      have fn := f.n ⟨k, hN'.2.2.1, hN'.1⟩
      obtain ⟨x, u2, e2, nf⟩ := fn.nd 1 (-1) (-1)
      refine ⟨(x, u2), (y, v'), ?_, ?_, Or.inr ⟨f.nf nf, nf.2⟩, k5.l.tr nf.l, kk.tr k6⟩
      · rw [cW_bad h1 (fun a ha => by rw [hid]; exact hasB_nl hd.1 (isDi_nle hd.2) (wok7 a ha)) c2, e2, z_b2s]
      · rw [hdig hd.1 hd.2, c4, z_b2s]
    · have hr : f_X11_part v = rW v1 := by
        rw [hrp]
        by_cases hb : b < n
        · rw [if_neg (nI_ge hb (by omega)), hX.at hb, Option.bind_some, zl, pr_isIn]
          exact if_neg (fun e => hd ⟨hb, e⟩)
        · rw [if_pos (nI_le (by omega) (by omega))]
      rw [hr]
      obtain ⟨a, b', e1, e2, e3⟩ := j_words h1 hN hk
      exact ⟨a, b', e1, e2, e3.tr ND.rf (Nat.le_refl _) (Nat.le_refl _) (fun _ _ _ _ _ => rfl) kk⟩
theorem FN.pt {t : Nat → Int32} {n : Nat} {u : zU} (h : FN t n u) : ∃ x u', f_X5_readPart u = some (x, u') ∧ NFr u u' := by
  obtain ⟨x, u', e, nf⟩ := h.nd 1 (-1) (-1)
  refine ⟨x, u', ?_, nf⟩
  rw [f_X5_readPart_t, h.1.vl, Option.bind_some, if_pos rfl]
  unfold cW
  rw [h.1.tk w43.2.1 w43.1, z_b2s, if_neg Bool.false_ne_true, h.1.tk w25.2.1 w25.1, z_b2s, if_neg Bool.false_ne_true, h.1.tk w27.2.1 w27.1, z_b2s, if_neg Bool.false_ne_true, h.1.tk w19.2.1 w19.1, z_b2s, if_neg Bool.false_ne_true, h.1.tk w44.2.1 w44.1, z_b2s, if_neg Bool.false_ne_true, h.1.tk w45.2.1 w45.1, z_b2s, if_neg Bool.false_ne_true, h.1.tk w21.2.1 w21.1, z_b2s, if_neg Bool.false_ne_true, h.1.rf, Option.bind_some, e, z_b2s]
