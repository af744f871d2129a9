/-! PURE, 30: pairs -/
/-- how many of k .. k+d-1 P takes -/
def cntF (P : Nat → Bool) : Nat → Nat → Nat
  | 0, _ => 0
  | d + 1, k => (if P k = true then 1 else 0) + cntF P d (k + 1)
theorem cntF_bcnt (P : Nat → Bool) : ∀ d k, bcnt P k + cntF P d k = bcnt P (k + d)
  | 0, k => rfl
  | d + 1, k => by
    show bcnt P k + ((if P k = true then 1 else 0) + cntF P d (k + 1)) = bcnt P (k + (d + 1))
    have := cntF_bcnt P d (k + 1)
    rw [bcnt_s] at this
    rw [show k + (d + 1) = k + 1 + d by omega, ← this]
    split <;> omega
/-- riders of the party p in the cradle c -/
def Pcp (v : Nat → Int32) (c p : Nat) : Nat → Bool := fun k => Pin v (nI c) k && Pp1 v p k
/-- of those from a on: which cradle and party (4 c + p) has two -/
def Qcp (v : Nat → Int32) (a : Nat) : Nat → Bool := fun i => decide (cntF (Pcp v (i / 4) (i % 4)) (rN v - a) a = 2)
theorem Q0_c {v : Nat → Int32} (i : Nat) : Qcp v 0 i = decide (bcnt (Pcp v (i / 4) (i % 4)) (rN v) = 2) := by
  have := cntF_bcnt (Pcp v (i / 4) (i % 4)) (rN v) 0
  rw [Nat.zero_add] at this
  have e : bcnt (Pcp v (i / 4) (i % 4)) (rN v) = cntF (Pcp v (i / 4) (i % 4)) (rN v) 0 := by rw [← this]; exact Nat.zero_add _
  rw [e]
  rfl
theorem pc_pairs {q : zq} {u : zU} {v : Nat → Int32} (hR : RW u 6 v) (hV : IV v) : f_X10_pairs q u = some (nI (bcnt (Qcp v 0) 32)) := by
  have h8 := hV.n8
  have hin : ∀ (K : Int32 → Int32 → Option Int32) c, c < 8 → K (nI (bcnt (Qcp v 0) (4 * (c + 1)))) (nI c + 1) = K (nI (bcnt (Qcp v 0) (4 * (c + 1)))) (nI (c + 1)) → ∀ d p fuel, p + d = 4 → d < fuel → f_X10_pairs_22 q K fuel (nI (bcnt (Qcp v 0) (4 * c + p))) (nI c) (nI (bset (Pin v (nI c)) (rN v))) (nI p) u = K (nI (bcnt (Qcp v 0) (4 * (c + 1)))) (nI (c + 1)) := by
    intro K c hc hK d
    induction d with
    | zero =>
      intro p fuel hp hf
      obtain ⟨m, rfl⟩ : ∃ m, fuel = m + 1 := ⟨fuel - 1, by omega⟩
      obtain rfl : p = 4 := by omega
      rw [f_X10_pairs_22_s, if_pos (show (4 : Int32) ≤ nI 4 by decide), show 4 * c + 4 = 4 * (c + 1) by omega]
      exact hK
    | succ d ih =>
      intro p fuel hp hf
      obtain ⟨m, rfl⟩ : ∃ m, fuel = m + 1 := ⟨fuel - 1, by omega⟩
      have hp4 : p < 4 := by omega
      obtain ⟨b1, b2, -⟩ := tb1 p hp4
      have hcnt := bcnt_le (Pcp v c p) (rN v)
      have hb : f_J6_bitCount_0f7a4 (nI (bset (Pin v (nI c)) (rN v)) &&& nI (bset (Ppa v (2 ^ p)) (rN v))) u = nI (bcnt (Pcp v c p) (rN v)) := by
        rw [nz_and, bset_and, pu_bitD h8, bcnt_ext (P' := Pcp v c p) _ (fun k hk => by unfold Pcp; rw [Ppa_1 hV hp4 (by omega)])]
      have hQ : Qcp v 0 (4 * c + p) = decide (bcnt (Pcp v c p) (rN v) = 2) := by
        rw [Q0_c, show (4 * c + p) / 4 = c by omega, show (4 * c + p) % 4 = p by omega]
      have hs : bcnt (Qcp v 0) (4 * c + (p + 1)) = if Qcp v 0 (4 * c + p) = true then bcnt (Qcp v 0) (4 * c + p) + 1 else bcnt (Qcp v 0) (4 * c + p) := bcnt_s _ _
      have ih2 := ih (p + 1) m (by omega) (by omega)
      rw [f_X10_pairs_22_s, if_neg (show ¬ (4 : Int32) ≤ nI p from nI_ge (b := 4) hp4 (by decide)), b1, pc_ridersOf hR hV (by omega), Option.bind_some, hb, zl, nI_1, nI_1]
      by_cases h2 : bcnt (Pcp v c p) (rN v) = 2
      · rw [if_pos (show nI (bcnt (Pcp v c p) (rN v)) = 2 by rw [h2]; rfl)]
        rw [hs, hQ, decide_eq_true h2, if_pos rfl] at ih2
        exact ih2
      · rw [if_neg (show ¬ nI (bcnt (Pcp v c p) (rN v)) = 2 from fun e => h2 ((nI_eq (b := 2) (by omega) (by decide)).mp e))]
        rw [hs, hQ, decide_eq_false h2, if_neg Bool.false_ne_true] at ih2
        exact ih2
  have hout : ∀ d c fuel, c + d = 8 → d < fuel → f_X10_pairs_4 q fuel (nI (bcnt (Qcp v 0) (4 * c))) (nI c) u = some (nI (bcnt (Qcp v 0) 32)) := by
    intro d
    induction d with
    | zero =>
      intro c fuel hc hf
      obtain ⟨m, rfl⟩ : ∃ m, fuel = m + 1 := ⟨fuel - 1, by omega⟩
      obtain rfl : c = 8 := by omega
      rw [f_X10_pairs_4_s, if_pos pu_le8]
    | succ d ih =>
      intro c fuel hc hf
      obtain ⟨m, rfl⟩ : ∃ m, fuel = m + 1 := ⟨fuel - 1, by omega⟩
      have hc8 : c < 8 := by omega
      rw [f_X10_pairs_4_s, if_neg (pu_ge8 hc8), pc_ridersIn hR hV, Option.bind_some]
      have := hin (fun k1 k2 => f_X10_pairs_4 q m k1 k2 u) c hc8 (by rw [nI_1]) 4 0 5000 rfl (by decide)
      exact this.trans (ih (c + 1) m (by omega) (by omega))
  rw [f_X10_pairs_e]
  exact hout 8 0 5000 rfl (by decide)
/-- those behind a who are a's like -/
def Psm (v : Nat → Int32) (a : Nat) : Nat → Bool := fun b => !decide (v (25 + 4 * a) = -1) && (decide (v (25 + 4 * a) = v (25 + 4 * b)) && decide (v (28 + 4 * a) = v (28 + 4 * b)))
theorem Q_step {v : Nat → Int32} (hV : IV v) (hP : CAP v) {a : Nat} (ha : a < rN v) : bcnt (Qcp v a) 32 = bcnt (Qcp v (a + 1)) 32 + cntF (Psm v a) (rN v - (a + 1)) (a + 1) := by
  have h8 := hV.n8
  have hsp : rN v - a = (rN v - (a + 1)) + 1 := by omega
  have hun : ∀ i, cntF (Pcp v (i / 4) (i % 4)) (rN v - a) a = (if Pcp v (i / 4) (i % 4) a = true then 1 else 0) + cntF (Pcp v (i / 4) (i % 4)) (rN v - (a + 1)) (a + 1) := fun i => by rw [hsp]; rfl
  rcases hV.pl ha with hw | ⟨c, hc, hw⟩
  · have h0 : ∀ b, Psm v a b = false := fun b => by unfold Psm; rw [decide_eq_true hw]; rfl
    have hz : ∀ d k, cntF (Psm v a) d k = 0 := by
      intro d
      induction d with
      | zero => intro k; rfl
      | succ d ih => intro k; show (if Psm v a k = true then 1 else 0) + _ = 0; rw [h0, if_neg Bool.false_ne_true, ih]
    rw [hz, Nat.add_zero]
    refine bcnt_ext _ (fun i hi => ?_)
    unfold Qcp
    have : Pcp v (i / 4) (i % 4) a = false := by unfold Pcp Pin; rw [hw, decide_eq_false (fun e => pu_m1 (by omega) e.symm)]; rfl
    rw [hun, this, if_neg Bool.false_ne_true, Nat.zero_add]
  · obtain ⟨p, hp, ep⟩ := hV.pa (show a < 8 by omega)
    have hi0 : 4 * c + p < 32 := by omega
    have d4 : (4 * c + p) / 4 = c := by omega
    have m4 : (4 * c + p) % 4 = p := by omega
    have hsm : ∀ b, Psm v a b = Pcp v c p b := fun b => by
      unfold Psm Pcp Pin Pp1
      rw [hw, ep, decide_eq_false (pu_m1 (show c < 2 ^ 31 by omega))]
      show (true && (decide (nI c = v (25 + 4 * b)) && decide (nI p = v (28 + 4 * b)))) = _
      rw [Bool.true_and]
      congr 1
      · exact decide_eq_decide.mpr ⟨fun e => e.symm, fun e => e.symm⟩
      · exact decide_eq_decide.mpr ⟨fun e => e.symm, fun e => e.symm⟩
    have hcm : ∀ d k, cntF (Psm v a) d k = cntF (Pcp v c p) d k := by
      intro d
      induction d with
      | zero => intro k; rfl
      | succ d ih => intro k; show (if Psm v a k = true then 1 else 0) + _ = (if Pcp v c p k = true then 1 else 0) + _; rw [hsm, ih]
    have hat : Pcp v c p a = true := by unfold Pcp Pin Pp1; rw [hw, ep, decide_eq_true rfl, decide_eq_true rfl]; rfl
    have hoff : ∀ i, i < 32 → i ≠ 4 * c + p → Pcp v (i / 4) (i % 4) a = false := fun i hi hne => by
      unfold Pcp Pin Pp1
      rw [hw, ep]
      by_cases e : i / 4 = c
      · have e2 : i % 4 ≠ p := by omega
        rw [decide_eq_false (p := nI p = nI (i % 4)) (fun q => e2 ((nI_eq (by omega) (by omega)).mp q).symm), Bool.and_false]
      · rw [decide_eq_false (p := nI c = nI (i / 4)) (fun q => e ((nI_eq (by omega) (by omega)).mp q).symm), Bool.false_and]
    have hle : cntF (Pcp v c p) (rN v - a) a ≤ 2 := by
      have h1 := cntF_bcnt (Pcp v c p) (rN v - a) a
      have h2 : bcnt (Pcp v c p) (a + (rN v - a)) ≤ 2 := by
        rw [show a + (rN v - a) = rN v by omega]
        exact Nat.le_trans (bcnt_mono _ (fun k hk hq => by unfold Pcp at hq; rw [Bool.and_eq_true] at hq; exact hq.1)) (hP.1 c hc)
      omega
    rw [hcm]
    have hQoff : ∀ i, i < 32 → i ≠ 4 * c + p → Qcp v a i = Qcp v (a + 1) i := fun i hi hne => by
      unfold Qcp
      rw [hun, hoff i hi hne, if_neg Bool.false_ne_true, Nat.zero_add]
    have hcount : cntF (Pcp v c p) (rN v - a) a = 1 + cntF (Pcp v c p) (rN v - (a + 1)) (a + 1) := by
      have := hun (4 * c + p)
      rw [d4, m4, hat, if_pos rfl] at this
      exact this
    have hlt : cntF (Pcp v c p) (rN v - (a + 1)) (a + 1) ≤ 1 := by omega
    have hQ1 : Qcp v (a + 1) (4 * c + p) = false := by unfold Qcp; rw [d4, m4]; exact decide_eq_false (by omega)
    by_cases h1 : cntF (Pcp v c p) (rN v - (a + 1)) (a + 1) = 1
    · rw [h1]
      refine bcnt_up (Qcp v (a + 1)) (Qcp v a) (x := 4 * c + p) 32 (fun i hi hne => hQoff i hi hne) hi0 hQ1 ?_
      unfold Qcp
      rw [d4, m4, hcount, h1]
      rfl
    · have h0 : cntF (Pcp v c p) (rN v - (a + 1)) (a + 1) = 0 := by omega
      rw [h0, Nat.add_zero]
      refine bcnt_ext _ (fun i hi => ?_)
      by_cases e : i = 4 * c + p
      · subst e
        rw [hQ1]
        unfold Qcp
        rw [d4, m4, hcount, h0]
        rfl
      · exact hQoff i hi e
theorem pr_pairs9 {u : zU} (hV : IV (u 1)) (hP : CAP (u 1)) : f_X11_pairs_9 5000 0 0 u = some (nI (bcnt (Qcp (u 1) 0) 32), u) := by
  have h8 := hV.n8
  have hin : ∀ (K : Int32 → Int32 → zU → Option (Int32 × zU)) a t, a < rN (u 1) → ∀ d b fuel, b + d = rN (u 1) → d < fuel → ∀ s, s + cntF (Psm (u 1) a) d b = t → f_X11_pairs_23 K fuel (nI s) (nI a) (nI b) u = K (nI t) (nI a + 1) u := by
    intro K a t ha d
    induction d with
    | zero =>
      intro b fuel hb hf s hs
      obtain ⟨m, rfl⟩ : ∃ m, fuel = m + 1 := ⟨fuel - 1, by omega⟩
      obtain rfl : b = rN (u 1) := by omega
      have : s = t := hs
      rw [f_X11_pairs_23_s, hV.n, if_pos (nI_le (Nat.le_refl _) (by omega)), this]
    | succ d ih =>
      intro b fuel hb hf s hs
      obtain ⟨m, rfl⟩ : ∃ m, fuel = m + 1 := ⟨fuel - 1, by omega⟩
      have hb8 : b < 8 := by omega
      have hs2 : s + ((if Psm (u 1) a b = true then 1 else 0) + cntF (Psm (u 1) a) d (b + 1)) = t := hs
      rw [f_X11_pairs_23_s, hV.n, if_neg (nI_ge (by omega) (by omega)), pr_waits (by omega), Option.bind_some, nI_1]
      have hno : Psm (u 1) a b = false → f_X11_pairs_23 K m (nI s) (nI a) (nI (b + 1)) u = K (nI t) (nI a + 1) u := fun hPb => by
        rw [hPb, if_neg Bool.false_ne_true, Nat.zero_add] at hs2
        exact ih (b + 1) m (by omega) (by omega) s hs2
      have hyes : Psm (u 1) a b = true → f_X11_pairs_23 K m (nI (s + 1)) (nI a) (nI (b + 1)) u = K (nI t) (nI a + 1) u := fun hPb => by
        rw [hPb, if_pos rfl] at hs2
        exact ih (b + 1) m (by omega) (by omega) (s + 1) (by omega)
      by_cases hw : u 1 (25 + 4 * a) = -1
      · rw [decide_eq_true hw, if_pos rfl, zl, Int32.add_zero]
        exact hno (by unfold Psm; rw [decide_eq_true hw]; rfl)
      · rw [decide_eq_false hw, if_neg Bool.false_ne_true, pr_of0 (by omega), Option.bind_some, pr_of0 hb8, Option.bind_some]
        by_cases h1 : u 1 (25 + 4 * a) = u 1 (25 + 4 * b)
        · rw [if_pos h1, pr_of3 (by omega), Option.bind_some, pr_of3 hb8, Option.bind_some]
          by_cases h2 : u 1 (28 + 4 * a) = u 1 (28 + 4 * b)
          · rw [if_pos h2, zl, nI_1]
            exact hyes (by unfold Psm; rw [decide_eq_false hw, decide_eq_true h1, decide_eq_true h2]; rfl)
          · rw [if_neg h2, zl, Int32.add_zero]
            exact hno (by unfold Psm; rw [decide_eq_false h2, Bool.and_false, Bool.and_false])
        · rw [if_neg h1, zl, Int32.add_zero]
          exact hno (by unfold Psm; rw [decide_eq_false h1, Bool.false_and, Bool.and_false])
  have hout : ∀ d a fuel s, a + d = rN (u 1) → d < fuel → s + bcnt (Qcp (u 1) a) 32 = bcnt (Qcp (u 1) 0) 32 → f_X11_pairs_9 fuel (nI s) (nI a) u = some (nI (bcnt (Qcp (u 1) 0) 32), u) := by
    intro d
    induction d with
    | zero =>
      intro a fuel s ha hf hs
      obtain ⟨m, rfl⟩ : ∃ m, fuel = m + 1 := ⟨fuel - 1, by omega⟩
      obtain rfl : a = rN (u 1) := by omega
      have hz : bcnt (Qcp (u 1) (rN (u 1))) 32 = 0 := by
        have hq : ∀ N, bcnt (Qcp (u 1) (rN (u 1))) N = 0 := by
          intro N
          induction N with
          | zero => rfl
          | succ N ih =>
            rw [bcnt_s, ih]
            have : Qcp (u 1) (rN (u 1)) N = false := by unfold Qcp; rw [Nat.sub_self]; rfl
            rw [this, if_neg Bool.false_ne_true]
        exact hq 32
      rw [f_X11_pairs_9_s, hV.n, if_pos (nI_le (Nat.le_refl _) (by omega)), ← hs, hz, Nat.add_zero]
    | succ d ih =>
      intro a fuel s ha hf hs
      obtain ⟨m, rfl⟩ : ∃ m, fuel = m + 1 := ⟨fuel - 1, by omega⟩
      have hst := Q_step hV hP (a := a) (by omega)
      rw [f_X11_pairs_9_s, hV.n, if_neg (nI_ge (by omega) (by omega)), zl, nI_1]
      rw [hin (fun k1 k2 u => f_X11_pairs_9 m k1 k2 u) a (s + cntF (Psm (u 1) a) (rN (u 1) - (a + 1)) (a + 1)) (by omega) (rN (u 1) - (a + 1)) (a + 1) 5000 (by omega) (by omega) s rfl, nI_1]
      exact ih (a + 1) m _ (by omega) (by omega) (by omega)
  exact hout (rN (u 1)) 0 5000 0 (by omega) (by omega) (by omega)
theorem s_pairs {q : zq} {u r : zU} (h : RR q u r) : ∃ x, f_X10_pairs q u = some x ∧ f_X11_pairs r = some (x, z_up r 0 0 0) ∧ RR q u (z_up r 0 0 0) := by
  refine ⟨_, pc_pairs h.rw h.iv, ?_, h.t 0⟩
  rw [f_X11_pairs_e, zl]
  exact pr_pairs9 (u := z_up r 0 0 0) h.iv h.cap
