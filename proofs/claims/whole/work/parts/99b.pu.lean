/-! PURE, 51: the two readers in step -/
theorem drop_cons' {α : Type} : ∀ (l : List α) (i : Nat) (a : α) (r : List α) (d : α), l.drop i = a :: r → i < l.length ∧ l.getD i d = a ∧ l.drop (i + 1) = r
  | [], i, a, r, d, h => by simp at h
  | x :: l, 0, a, r, d, h => by
    have h : x :: l = a :: r := h
    injection h with h1 h2
    exact ⟨Nat.succ_pos _, h1, h2⟩
  | x :: l, i + 1, a, r, d, h => by
    have := drop_cons' l i a r d h
    exact ⟨Nat.succ_lt_succ this.1, this.2.1, this.2.2⟩
theorem drop_nil' {α : Type} : ∀ (l : List α) (i : Nat) (d : α), l.drop i = [] → i ≤ l.length → i = l.length ∧ l.getD i d = d
  | [], i, d, _, h => by
    have : i = 0 := Nat.le_zero.mp h
    subst this
    exact ⟨rfl, rfl⟩
  | x :: l, 0, d, h, _ => by
    have h : x :: l = [] := h
    cases h
  | x :: l, i + 1, d, h, h2 => by
    have := drop_nil' l i d h (Nat.le_of_succ_le_succ h2)
    exact ⟨congrArg (· + 1) this.1, this.2⟩
theorem zupo {u : zU} {r k r' j : Nat} {x : Int32} (h : ¬ (r' = r ∧ j = k)) : z_up u r k x r' j = u r' j := by
  by_cases e : r' = r
  · subst e; rw [z_up_eq, upd_ne (fun e => h ⟨rfl, e⟩)]
  · rw [z_up_ne e]
theorem zupe {u : zU} {r k : Nat} {x : Int32} : z_up u r k x r k = x := by rw [z_up_eq, upd_eq]
/-- how many things the text has -/
def NTh (t : Nat → Int32) (n : Nat) : Nat := (Th t n 0).length
def thg (t : Nat → Int32) (n j : Nat) : Nat × Nat := (Th t n 0).getD j (n, n)
/-- the class's things are those of the text t of n letters -/
def JC (t : Nat → Int32) (n : Nat) (u : zU) : Prop := (n ≤ 400 ∧ NTh t n ≤ 400) ∧ (∀ k, k < 400 → u 2 k = t k) ∧ u 3 3 = nI (NTh t n) ∧ ∀ j, j ≤ NTh t n → u 4 j = nI (thg t n j).1 ∧ u 5 j = nI (thg t n j).2
/-- the reference's text is t -/
def TX (t : Nat → Int32) (n : Nat) (v : zU) : Prop := n ≤ 400 ∧ v 0 10 = nI n ∧ ((v 0 9 = -1 ∧ ∀ k, k < n → v 5 k = t k) ∨ (v 0 9 = 305 ∧ ∀ k, k < n → v 1 (305 + k) = t k))
/-- what the class's things leave, and the reference's -/
def KC (u u' : zU) : Prop := ∀ r j, ¬ (r = 3 ∧ (j = 4 ∨ j = 5)) → u' r j = u r j
def KR (v v' : zU) : Prop := ∀ r j, ¬ (r = 0 ∧ (j = 11 ∨ j = 12)) → v' r j = v r j
theorem KC.rf {u : zU} : KC u u := fun _ _ _ => rfl
theorem KC.tr {u u1 u2 : zU} (h : KC u u1) (k : KC u1 u2) : KC u u2 := fun r j e => (k r j e).trans (h r j e)
theorem KC.up {u u1 : zU} (h : KC u u1) {j : Nat} (hj : j = 4 ∨ j = 5) (x : Int32) : KC u (z_up u1 3 j x) := fun r k e => (zupo (fun a => e ⟨a.1, by omega⟩)).trans (h r k e)
theorem KR.rf {v : zU} : KR v v := fun _ _ _ => rfl
theorem KR.tr {u u1 u2 : zU} (h : KR u u1) (k : KR u1 u2) : KR u u2 := fun r j e => (k r j e).trans (h r j e)
theorem KR.up {u u1 : zU} (h : KR u u1) {j : Nat} (hj : j = 11 ∨ j = 12) (x : Int32) : KR u (z_up u1 0 j x) := fun r k e => (zupo (fun a => e ⟨a.1, by omega⟩)).trans (h r k e)
theorem JC.k {t : Nat → Int32} {n : Nat} {u u' : zU} (h : JC t n u) (k2 : u' 2 = u 2) (k3 : u' 3 3 = u 3 3) (k4 : u' 4 = u 4) (k5 : u' 5 = u 5) : JC t n u' := by
  obtain ⟨h1, h2, h3, h4⟩ := h
  exact ⟨h1, fun k hk => by rw [k2]; exact h2 k hk, by rw [k3]; exact h3, fun j hj => by rw [k4, k5]; exact h4 j hj⟩
theorem JC.kc {t : Nat → Int32} {n : Nat} {u u' : zU} (h : JC t n u) (k : KC u u') : JC t n u' :=
  h.k (funext fun j => k 2 j (by omega)) (k 3 3 (by omega)) (funext fun j => k 4 j (by omega)) (funext fun j => k 5 j (by omega))
theorem TX.k {t : Nat → Int32} {n : Nat} {v v' : zU} (h : TX t n v) (k9 : v' 0 9 = v 0 9) (k10 : v' 0 10 = v 0 10) (k5 : v' 5 = v 5) (k1 : v 0 9 = -1 ∨ ∀ k, k < 400 → v' 1 (305 + k) = v 1 (305 + k)) : TX t n v' := by
  obtain ⟨h1, h2, h3⟩ := h
  refine ⟨h1, by rw [k10]; exact h2, ?_⟩
  rcases h3 with ⟨a, b⟩ | ⟨a, b⟩
  · exact Or.inl ⟨by rw [k9]; exact a, fun k hk => by rw [k5]; exact b k hk⟩
  · refine Or.inr ⟨by rw [k9]; exact a, fun k hk => ?_⟩
    rcases k1 with c | c
    · rw [a] at c; exact absurd c (by decide)
    · rw [c k (by omega)]; exact b k hk
theorem TX.kr {t : Nat → Int32} {n : Nat} {v v' : zU} (h : TX t n v) (k : KR v v') : TX t n v' :=
  h.k (k 0 9 (by omega)) (k 0 10 (by omega)) (funext fun j => k 5 j (by omega)) (Or.inr fun j _ => k 1 _ (by omega))
theorem TX.r {t : Nat → Int32} {n : Nat} {v : zU} (h : TX t n v) : TXr v t n := by
  obtain ⟨h1, h2, h3⟩ := h
  refine ⟨h1, h2, fun u' k hk e1 e2 => ?_⟩
  rw [f_X11_letter_e, e2]
  rcases h3 with ⟨a, b⟩ | ⟨a, b⟩
  · rw [a, if_pos rfl, if_pos (pu_in (show k < 400 by omega) (by decide)), zl, nI_clamp (by omega), e1 5 (by decide), b k hk]
  · rw [a, if_neg (by decide), show (305 : Int32) + nI k = nI (305 + k) from nI_add 305 k, if_pos (pu_in (show 305 + k < 705 by omega) (by decide)), zl, nI_clamp (by omega), e1 1 (by decide), b k hk]
theorem skp_nb (t : Nat → Int32) : ∀ d p, skp t d p < p + d → t (skp t d p) ≠ 32
  | 0, p, h => by have : p < p + 0 := h; omega
  | d + 1, p, h => by
    have es : skp t (d + 1) p = if t p = 32 then skp t d (p + 1) else p := rfl
    rw [es] at h ⊢
    by_cases e : t p = 32
    · rw [if_pos e] at h ⊢; exact skp_nb t d (p + 1) (by omega)
    · rw [if_neg e]; exact e
theorem skp_at {t : Nat → Int32} {d p : Nat} (h : t p ≠ 32) : skp t d p = p := by
  cases d with
  | zero => rfl
  | succ d => exact if_neg h
theorem skp_id {t : Nat → Int32} {n p : Nat} (hp : p ≤ n) : skp t (n - skp t (n - p) p) (skp t (n - p) p) = skp t (n - p) p := by
  have hs := skp_le t (n - p) p
  by_cases h : skp t (n - p) p < p + (n - p)
  · exact skp_at (skp_nb t _ _ h)
  · rw [show n - skp t (n - p) p = 0 by omega]; rfl
theorem Th_skp {t : Nat → Int32} {n p : Nat} (hp : p ≤ n) : Th t n (skp t (n - p) p) = Th t n p := by
  have hs := skp_le t (n - p) p
  rw [Th_e (n - p) p (by omega), Th_e (n - skp t (n - p) p) (skp t (n - p) p) (by omega), skp_id hp]
/-- in step, without a fault: the class stands at its i-th thing, the reference at the place p -/
def OKs (t : Nat → Int32) (n i p : Nat) (u v : zU) : Prop := JC t n u ∧ TX t n v ∧ (u 3 5 = -1 ∧ u 3 4 = nI i ∧ i ≤ NTh t n) ∧ v 0 12 = -1 ∧ v 0 11 = nI p ∧ p ≤ n ∧ Th t n p = (Th t n 0).drop i
/-- in step, behind a fault -/
def FAs (t : Nat → Int32) (n e : Nat) (u v : zU) : Prop := JC t n u ∧ TX t n v ∧ (∃ w, w ≤ n ∧ u 3 5 = nI w ∧ v 0 12 = nI w) ∧ u 3 4 = nI (NTh t n) ∧ ∃ p, v 0 11 = nI p ∧ p ≤ n + e
theorem OKs.nx {t : Nat → Int32} {n i p : Nat} {u v : zU} (h : OKs t n i p u v) : (skp t (n - p) p < n ∧ i < NTh t n ∧ u 4 i = nI (skp t (n - p) p) ∧ u 5 i = nI (ren t n (skp t (n - p) p)) ∧ skp t (n - p) p + 1 ≤ ren t n (skp t (n - p) p) ∧ ren t n (skp t (n - p) p) ≤ n ∧ Th t n (ren t n (skp t (n - p) p)) = (Th t n 0).drop (i + 1)) ∨ (skp t (n - p) p = n ∧ i = NTh t n ∧ u 4 i = nI n ∧ u 5 i = nI n) := by
  obtain ⟨h1, h2, ⟨h3, h4, h5⟩, h6, h7, h8, h9⟩ := h
  have hs := skp_le t (n - p) p
  rw [Th_e (n - p) p (by omega)] at h9
  obtain ⟨b1, b2⟩ := h1.2.2.2 i h5
  unfold thg at b1 b2
  by_cases hb : skp t (n - p) p < n
  · rw [if_pos hb] at h9
    obtain ⟨c1, c2, c3⟩ := drop_cons' _ _ _ _ (n, n) h9.symm
    rw [c2] at b1 b2
    have hr := ren_le (t := t) hb
    exact Or.inl ⟨hb, c1, b1, b2, hr.1, hr.2, c3.symm⟩
  · rw [if_neg hb] at h9
    obtain ⟨c1, c2⟩ := drop_nil' _ _ (n, n) h9.symm h5
    rw [c2] at b1 b2
    exact Or.inr ⟨by omega, c1, b1, b2⟩
/-- the reference has gone over blanks -/
theorem OKs.sk {t : Nat → Int32} {n i p : Nat} {u v : zU} (h : OKs t n i p u v) : OKs t n i (skp t (n - p) p) u (z_up v 0 11 (nI (skp t (n - p) p))) := by
  obtain ⟨h1, h2, h3, h6, h7, h8, h9⟩ := h
  have hs := skp_le t (n - p) p
  exact ⟨h1, h2.kr (KR.rf.up (Or.inl rfl) _), h3, h6, zupe, by omega, (Th_skp h8).trans h9⟩
/-- both have gone on -/
theorem OKs.go {t : Nat → Int32} {n i p q : Nat} {u v : zU} (h : OKs t n i p u v) (hi : i < NTh t n) (hq : q ≤ n) (hT : Th t n q = (Th t n 0).drop (i + 1)) : OKs t n (i + 1) q (z_up u 3 4 (nI (i + 1))) (z_up v 0 11 (nI q)) := by
  obtain ⟨h1, h2, ⟨h3, h4, h5⟩, h6, h7, h8, h9⟩ := h
  exact ⟨h1.kc (KC.rf.up (Or.inl rfl) _), h2.kr (KR.rf.up (Or.inl rfl) _), ⟨h3, zupe, hi⟩, h6, zupe, hq, hT⟩
/-- a word of letters -/
def wok (a : Nat) : Prop := sLen.getD a 0 ≤ 400 ∧ 0 < sLen.getD a 0 ∧ isLe (sCh a 0) = true
theorem j_word {t : Nat → Int32} {n i p a : Nat} {u v : zU} (ha : wok a) (h : OKs t n i p u v) : ∃ x u' v', f_X8_takes a u = some (x, u') ∧ f_X11_has a v = some (x, v') ∧ KC u u' ∧ KR v v' ∧ (x = true → ∃ p', OKs t n (i + 1) p' u' v') ∧ (x = false → OKs t n i (skp t (n - p) p) u' v' ∧ u' = u ∧ v' = z_up v 0 11 (nI (skp t (n - p) p))) := by
  have hn := h.nx
  have hk := h.sk
  have hp := h.2.2.2.2.2.1
  have hl := h.2.2.1.2.2
  have hi4 := h.1.1
  have hs := skp_le t (n - p) p
  have hr := pr_has (a := a) ha.1 h.2.1.r hp h.2.2.2.2.1
  rcases hn with ⟨b1, b2, b3, b4, b5, b6, b7⟩ | ⟨b1, b2, b3, b4⟩
  · have hc := pc_takes (a := a) ha.1 h.1.2.1 h.2.2.1.2.1 (by omega) b3 b4 (by omega) (by omega)
    rw [tk_has b1 ha.2.1 ha.2.2] at hc
    cases hB : hasB t n (skp t (n - p) p) a with
    | true =>
      rw [hB, if_pos rfl] at hc
      rw [hB, if_pos rfl] at hr
      have hle : isLe (t (skp t (n - p) p)) = true := by
        by_cases q : isLe (t (skp t (n - p) p)) = true
        · exact q
        · have e1 : run isLe t (n - skp t (n - p) p) (skp t (n - p) p) = skp t (n - p) p := by
            rw [show n - skp t (n - p) p = (n - skp t (n - p) p - 1) + 1 by omega]; exact if_neg q
          unfold hasB at hB
          rw [e1, decide_eq_false (by have := ha.2.1; omega), Bool.false_and] at hB
          cases hB
      rw [← ren_le2 b1 hle] at hr
      exact ⟨true, _, _, hc, hr, KC.rf.up (Or.inl rfl) _, KR.rf.up (Or.inl rfl) _, fun _ => ⟨_, h.go b2 b6 b7⟩, fun e => by cases e⟩
    | false =>
      rw [hB, if_neg Bool.false_ne_true] at hc
      rw [hB, if_neg Bool.false_ne_true] at hr
      exact ⟨false, _, _, hc, hr, KC.rf, KR.rf.up (Or.inl rfl) _, (fun e => by cases e), fun _ => ⟨hk, rfl, rfl⟩⟩
  · have hc := pc_takes (a := a) ha.1 h.1.2.1 h.2.2.1.2.1 (by omega) b3 b4 (Nat.le_refl _) (by omega)
    rw [tk_end ha.2.1, if_neg Bool.false_ne_true] at hc
    have hB : hasB t n (skp t (n - p) p) a = false := by
      unfold hasB
      rw [b1, Nat.sub_self, decide_eq_false (by have := ha.2.1; show ¬ n - n = _; omega), Bool.false_and]
    rw [hB, if_neg Bool.false_ne_true] at hr
    exact ⟨false, _, _, hc, hr, KC.rf, KR.rf.up (Or.inl rfl) _, (fun e => by cases e), fun _ => ⟨hk, rfl, rfl⟩⟩
/-- a sign by itself -/
def sok (a : Nat) (c : Int32) : Prop := sLen.getD a 0 = 1 ∧ kd (sCh a 0) = -1 ∧ sCh a 0 = c
theorem j_sign {t : Nat → Int32} {n i p a : Nat} {c : Int32} {u v : zU} (ha : sok a c) (h : OKs t n i p u v) : ∃ x u' v', f_X8_takes a u = some (x, u') ∧ f_X11_isSign c v = some (x, v') ∧ KC u u' ∧ v' = z_up v 0 11 (nI (skp t (n - p) p)) ∧ (x = true → ∃ p', OKs t n (i + 1) p' u' (z_up v' 0 11 (v' 0 11 + 1))) ∧ (x = false → OKs t n i (skp t (n - p) p) u' v' ∧ u' = u) := by
  have hn := h.nx
  have hk := h.sk
  have hp := h.2.2.2.2.2.1
  have hl := h.2.2.1.2.2
  have hi4 := h.1.1
  have hs := skp_le t (n - p) p
  have hl1 := ha.1
  have hr := pr_sign h.2.1.r hp h.2.2.2.2.1 c
  rcases hn with ⟨b1, b2, b3, b4, b5, b6, b7⟩ | ⟨b1, b2, b3, b4⟩
  · have hc := pc_takes (a := a) (by omega) h.1.2.1 h.2.2.1.2.1 (by omega) b3 b4 (by omega) (by omega)
    rw [tk_sign ha.1 ha.2.1, ha.2.2] at hc
    by_cases hB : t (skp t (n - p) p) = c
    · rw [decide_eq_true hB, if_pos rfl] at hc
      rw [decide_eq_true ⟨b1, hB⟩] at hr
      refine ⟨true, _, _, hc, hr, KC.rf.up (Or.inl rfl) _, rfl, fun _ => ⟨skp t (n - p) p + 1, ?_⟩, fun e => by cases e⟩
      rw [zupe, nI_1, zup2]
      have e2 : ren t n (skp t (n - p) p) = skp t (n - p) p + 1 := ren_m (by rw [hB, ← ha.2.2]; exact ha.2.1)
      rw [e2] at b6 b7
      exact h.go b2 b6 b7
    · rw [decide_eq_false hB, if_neg Bool.false_ne_true] at hc
      rw [decide_eq_false (fun e => hB e.2)] at hr
      exact ⟨false, _, _, hc, hr, KC.rf, rfl, (fun e => by cases e), fun _ => ⟨hk, rfl⟩⟩
  · have hc := pc_takes (a := a) (by omega) h.1.2.1 h.2.2.1.2.1 (by omega) b3 b4 (Nat.le_refl _) (by omega)
    rw [tk_end (by omega), if_neg Bool.false_ne_true] at hc
    rw [decide_eq_false (fun e => by omega)] at hr
    exact ⟨false, _, _, hc, hr, KC.rf, rfl, (fun e => by cases e), fun _ => ⟨hk, rfl⟩⟩
theorem KR.wr {v v' : zU} (h : KR v v') (x : Int32) : KR v (f_X11_wrong x v') := by
  rw [f_X11_wrong_e]
  by_cases e : v' 0 12 = -1
  · rw [if_pos e, zl]; exact h.up (Or.inr rfl) _
  · rw [if_neg e]; exact h
/-- both refuse where the class stands -/
theorem j_ref {t : Nat → Int32} {n i p : Nat} {u v : zU} (h : OKs t n i p u v) : ∃ u', f_X8_refuse u = some u' ∧ KC u u' ∧ ∀ v2 q e, TX t n v2 → v2 0 12 = -1 → v2 0 11 = nI q → q ≤ n + e → FAs t n e u' (f_X11_wrong (nI (skp t (n - p) p)) v2) := by
  have hn := h.nx
  have hs := skp_le t (n - p) p
  obtain ⟨h1, h2, ⟨h3, h4, h5⟩, h6, h7, h8, h9⟩ := h
  have hi4 := h1.1
  have h4i : u 4 i = nI (skp t (n - p) p) := by
    rcases hn with a | a
    · exact a.2.2.1
    · rw [a.2.2.1, a.1]
  generalize skp t (n - p) p = b at h4i hs
  have kc : KC u (z_up (z_up u 3 5 (nI b)) 3 4 (nI (NTh t n))) := (KC.rf.up (Or.inr rfl) _).up (Or.inl rfl) _
  refine ⟨_, ?_, kc, fun v2 q e a1 a2 a3 a4 => ?_⟩
  · rw [f_X8_refuse_e, if_pos h3, h4, if_pos (pu_in (show i < 401 by omega) (by decide)), zl, nI_clamp (by omega), h4i, zl, zl]
    rw [show (z_up u 3 5 (nI b)) 3 3 = nI (NTh t n) from (zupo (by omega)).trans h1.2.2.1]
  · have ew : f_X11_wrong (nI b) v2 = z_up v2 0 12 (nI b) := by rw [f_X11_wrong_e, if_pos a2, zl]
    rw [ew]
    exact ⟨h1.kc kc, a1.kr (KR.rf.up (Or.inr rfl) _), ⟨b, by omega, rfl, rfl⟩, zupe, q, a3, a4⟩
/-- both refuse where they stand -/
theorem j_refuse {t : Nat → Int32} {n i p : Nat} {u v : zU} (h : OKs t n i p u v) (hp : skp t (n - p) p = p) : ∃ u', f_X8_refuse u = some u' ∧ KC u u' ∧ FAs t n 0 u' (f_X11_wrong (v 0 11) v) ∧ KR v (f_X11_wrong (v 0 11) v) := by
  obtain ⟨u', e, k, f⟩ := j_ref h
  have h11 := h.2.2.2.2.1
  rw [hp, ← h11] at f
  exact ⟨u', e, k, f v p 0 h.2.1 h.2.2.2.1 h11 (by have := h.2.2.2.2.2.1; omega), KR.rf.wr _⟩
/-- the class behind a fault -/
def FCs (t : Nat → Int32) (n : Nat) (u : zU) : Prop := JC t n u ∧ u 3 4 = nI (NTh t n) ∧ u 3 5 ≠ -1
theorem FAs.c {t : Nat → Int32} {n e : Nat} {u v : zU} (h : FAs t n e u v) : FCs t n u := by
  obtain ⟨h1, h2, ⟨w, hw, h3, -⟩, h4, -⟩ := h
  have := h1.1
  exact ⟨h1, h4, by rw [h3]; exact pu_m1 (by omega)⟩
theorem FAs.r {t : Nat → Int32} {n e : Nat} {u v : zU} (h : FAs t n e u v) : v 0 12 ≠ -1 := by
  obtain ⟨h1, h2, ⟨w, hw, -, h3⟩, h4, -⟩ := h
  have := h1.1
  rw [h3]; exact pu_m1 (by omega)
theorem FCs.en {t : Nat → Int32} {n : Nat} {u : zU} (h : FCs t n u) : u 4 (NTh t n) = nI n ∧ u 5 (NTh t n) = nI n := by
  have h1 := h.1.2.2.2 (NTh t n) (Nat.le_refl _)
  have : thg t n (NTh t n) = (n, n) := (drop_nil' (Th t n 0) (NTh t n) (n, n) (List.drop_length ..) (Nat.le_refl _)).2
  rw [this] at h1
  exact h1
theorem FCs.tk {t : Nat → Int32} {n : Nat} {u : zU} (h : FCs t n u) {a : Nat} (h0 : 0 < sLen.getD a 0) (h4 : sLen.getD a 0 ≤ 400) : f_X8_takes a u = some (false, u) := by
  have hi4 := h.1.1
  have hc := pc_takes (a := a) h4 h.1.2.1 h.2.1 (by omega) h.en.1 h.en.2 (Nat.le_refl _) (by omega)
  rw [tk_end h0, if_neg Bool.false_ne_true] at hc
  exact hc
theorem FCs.rf {t : Nat → Int32} {n : Nat} {u : zU} (h : FCs t n u) : f_X8_refuse u = some u := by
  rw [f_X8_refuse_e, if_neg h.2.2, zl, h.1.2.2.1, zup1 u 3 4 _ h.2.1]
theorem FCs.vl {t : Nat → Int32} {n : Nat} {u : zU} (h : FCs t n u) : f_X8_value u = some (-1) := by
  have hi4 := h.1.1
  have hin := pu_in (show NTh t n < 401 by omega) (by decide)
  rw [f_X8_value_e, h.2.1, if_pos hin, zl, if_pos hin, zl, zl, nI_clamp (by omega), h.en.1, h.en.2, if_pos (show nI n - nI n < 1 by rw [nI_sb (Nat.le_refl _), Nat.sub_self]; decide)]
theorem FCs.nu {t : Nat → Int32} {n : Nat} {u : zU} (h : FCs t n u) {lo hi : Int32} (hl : (-1 : Int32) < lo) : f_X8_number lo hi u = some (lo, u) := by
  rw [f_X8_number_e, h.vl, Option.bind_some, if_pos hl, h.rf, Option.bind_some]
theorem FCs.mu {t : Nat → Int32} {n : Nat} {u : zU} (h : FCs t n u) {a : Nat} (h0 : 0 < sLen.getD a 0) (h4 : sLen.getD a 0 ≤ 400) : f_X8_must a u = some u := by
  rw [f_X8_must_e, h.tk h0 h4, z_b2s, if_neg Bool.false_ne_true, h.rf, Option.bind_some]
theorem FAs.kk {t : Nat → Int32} {n e : Nat} {u u' v : zU} (h : FAs t n e u v) (k2 : u' 2 = u 2) (k3 : u' 3 = u 3) (k4 : u' 4 = u 4) (k5 : u' 5 = u 5) : FAs t n e u' v := by
  obtain ⟨h1, h2, h3, h4, h5⟩ := h
  exact ⟨h1.k k2 (by rw [k3]) k4 k5, h2, by rw [k3]; exact h3, by rw [k3]; exact h4, h5⟩
