/-! PURE, 29: majority, reign -/
theorem sWt_b {v : Nat → Int32} (hV : IV v) (P : Nat → Bool) : ∀ n, n ≤ 8 → ∃ t, t ≤ 9 * n ∧ sWt v P n = nI t ∧ ((∃ k, k < n ∧ P k = true ∧ 1 ≤ v (26 + 4 * k)) → 1 ≤ t)
  | 0, _ => ⟨0, by omega, rfl, fun ⟨k, hk, _⟩ => by omega⟩
  | n + 1, hn => by
    obtain ⟨t, t1, t2, t3⟩ := sWt_b hV P n (by omega)
    obtain ⟨w, w1, w2⟩ := hV.we (show n < 8 by omega)
    by_cases hP : P n = true
    · refine ⟨t + w, by omega, by rw [sWt_s, if_pos hP, t2, w2, nI_add], fun ⟨k, k1, k2, k3⟩ => ?_⟩
      by_cases e : k = n
      · subst e
        rw [w2] at k3
        have := (nI_leI (a := 1) (by decide) (by omega)).mp k3
        omega
      · have := t3 ⟨k, by omega, k2, k3⟩; omega
    · refine ⟨t, by omega, by rw [sWt_s, if_neg hP, t2], fun ⟨k, k1, k2, k3⟩ => ?_⟩
      by_cases e : k = n
      · subst e; exact absurd k2 hP
      · exact t3 ⟨k, by omega, k2, k3⟩
theorem sWt_no {v : Nat → Int32} {P : Nat → Bool} : ∀ n, (∀ k, k < n → P k = false) → sWt v P n = 0
  | 0, _ => rfl
  | n + 1, h => by rw [sWt_s, h n (by omega), if_neg Bool.false_ne_true]; exact sWt_no n (fun k hk => h k (by omega))
theorem sMa_no {v : Nat → Int32} (hV : IV v) {m : Nat} (h : ∀ k, k < rN v → (Ppa v m k && Pse v k) = false) : sMa v m = false := by
  obtain ⟨t, t1, t2, -⟩ := sWt_b hV (Pse v) (rN v) hV.n8
  have := hV.n8
  unfold sMa sTo
  rw [sWt_no _ h, t2, decide_eq_true]
  · rfl
  · show (2 : Int32) * 0 ≤ nI t
    rw [show (2 : Int32) * 0 = nI 0 from by decide]
    exact nI_le (by omega) (by omega)
theorem sMa_all {v : Nat → Int32} (hV : IV v) (hP : CAP v) {k : Nat} (hk : k < rN v) (hs : Pse v k = true) : sMa v 15 = true := by
  have h8 := hV.n8
  obtain ⟨t, t1, t2, t3⟩ := sWt_b hV (Pse v) (rN v) h8
  have h15 : ∀ j, j < 4 → Nat.testBit 15 j = true := by decide
  have e : sWt v (fun k => Ppa v 15 k && Pse v k) (rN v) = sWt v (Pse v) (rN v) := sWt_ext (fun k hk => by
    obtain ⟨p, hp, e⟩ := hV.pa (show k < 8 by omega)
    unfold Ppa
    rw [e, nI_clamp (by omega), h15 p (by omega), Bool.true_and])
  have ht := t3 ⟨k, hk, hs, hP.2 k hk⟩
  unfold sMa sTo
  rw [e, t2, decide_eq_false]
  · rfl
  · rw [show (2 : Int32) = nI 2 from rfl, pu_mul]
    exact nI_ge (by omega) (by omega)
theorem p_maj {q : zq} {u r : zU} (hR : RW u 6 (r 1)) (hV : IV (r 1)) (h15 : sMa (r 1) 15 = true) : ∀ d k fuel fu2 (f g : Int32), k + d = 16 → 1 ≤ k → d < fuel → d < fu2 → ((f = 0 ∧ g = -1 ∧ k ≤ 15) ∨ ∃ s, 1 ≤ s ∧ s < 16 ∧ f = nI s ∧ g = nI s) → ∃ y, f_X10_majority_4 q fuel f (nI k) u = some y ∧ f_X11_majority_18 fu2 g (nI k) r = some (y, r) := by
  intro d
  induction d with
  | zero =>
    intro k fuel fu2 f g hk h1 hf hf2 hst
    obtain ⟨m, rfl⟩ : ∃ m, fuel = m + 1 := ⟨fuel - 1, by omega⟩
    obtain ⟨m2, rfl⟩ : ∃ m, fu2 = m + 1 := ⟨fu2 - 1, by omega⟩
    obtain rfl : k = 16 := by omega
    rw [f_X10_majority_4_s, f_X11_majority_18_s, if_pos (show (16 : Int32) ≤ nI 16 by decide), if_pos (show (16 : Int32) ≤ nI 16 by decide)]
    rcases hst with ⟨-, -, h⟩ | ⟨s, -, -, e1, e2⟩
    · omega
    · exact ⟨_, rfl, by rw [e1, e2]⟩
  | succ d ih =>
    intro k fuel fu2 f g hk h1 hf hf2 hst
    obtain ⟨m, rfl⟩ : ∃ m, fuel = m + 1 := ⟨fuel - 1, by omega⟩
    obtain ⟨m2, rfl⟩ : ∃ m, fu2 = m + 1 := ⟨fu2 - 1, by omega⟩
    have hk16 : k < 16 := by omega
    have hge : ¬ (16 : Int32) ≤ nI k := nI_ge (b := 16) hk16 (by decide)
    rw [f_X10_majority_4_s, f_X11_majority_18_s, if_neg hge, if_neg hge, pc_major hR hV (by omega), pr_major hV (by omega), Option.bind_some, Option.bind_some, nI_1]
    rcases hst with ⟨e1, e2, hk15⟩ | ⟨s, s1, s2, e1, e2⟩
    · rw [if_pos e1, if_pos e2]
      by_cases hm : sMa (r 1) k = true
      · rw [if_pos hm, if_pos hm]
        exact ih (k + 1) m m2 _ _ (by omega) (by omega) (by omega) (by omega) (Or.inr ⟨k, h1, hk16, rfl, rfl⟩)
      · rw [if_neg hm, if_neg hm]
        refine ih (k + 1) m m2 _ _ (by omega) (by omega) (by omega) (by omega) (Or.inl ⟨e1, e2, ?_⟩)
        by_cases e : k = 15
        · subst e; exact absurd h15 hm
        · omega
    · have hs0 : ¬ nI s = 0 := nI_ne0 (by omega) (by omega)
      have hs1 : ¬ nI s = -1 := pu_m1 (by omega)
      rw [e1, e2, if_neg hs0, if_neg hs1, pu_bitC (show k < 256 by omega), pu_bitC (show s < 256 by omega), zl, zl, pu_bits0 (show k < 256 by omega), Option.bind_some, pu_bits0 (show s < 256 by omega), Option.bind_some]
      by_cases hb : nI (bcnt (fun r => s.testBit r) 8) ≤ nI (bcnt (fun r => k.testBit r) 8)
      · rw [if_pos hb, if_pos hb]
        have := ih (k + 1) m m2 _ _ (by omega) (by omega) (by omega) (by omega) (Or.inr ⟨s, s1, s2, rfl, rfl⟩)
        split
        · exact this
        · exact this
      · rw [if_neg hb, if_neg hb]
        by_cases hm : sMa (r 1) k = true
        · rw [if_pos hm, if_pos hm]
          exact ih (k + 1) m m2 _ _ (by omega) (by omega) (by omega) (by omega) (Or.inr ⟨k, h1, hk16, rfl, rfl⟩)
        · rw [if_neg hm, if_neg hm]
          exact ih (k + 1) m m2 _ _ (by omega) (by omega) (by omega) (by omega) (Or.inr ⟨s, s1, s2, rfl, rfl⟩)
theorem p_majNo {q : zq} {u : zU} {v : Nat → Int32} (hR : RW u 6 v) (hV : IV v) (hno : ∀ m, m < 16 → sMa v m = false) : f_X10_majority q u = some 0 := by
  have hm : ∀ d k fuel, k + d = 16 → d < fuel → f_X10_majority_4 q fuel 0 (nI k) u = some 0 := by
    intro d
    induction d with
    | zero =>
      intro k fuel hk hf
      obtain ⟨m, rfl⟩ : ∃ m, fuel = m + 1 := ⟨fuel - 1, by omega⟩
      obtain rfl : k = 16 := by omega
      rw [f_X10_majority_4_s, if_pos (show (16 : Int32) ≤ nI 16 by decide)]
    | succ d ih =>
      intro k fuel hk hf
      obtain ⟨m, rfl⟩ : ∃ m, fuel = m + 1 := ⟨fuel - 1, by omega⟩
      rw [f_X10_majority_4_s, if_neg (show ¬ (16 : Int32) ≤ nI k from nI_ge (b := 16) (by omega) (by decide)), if_pos rfl, pc_major hR hV (by omega), Option.bind_some, hno k (by omega), if_neg Bool.false_ne_true, nI_1]
      exact ih (k + 1) m (by omega) (by omega)
  rw [f_X10_majority_e]
  exact hm 15 1 5000 rfl (by decide)
theorem bset_0 {P : Nat → Bool} {n : Nat} (hn : n ≤ 8) : nI (bset P n) = 0 ↔ ∀ k, k < n → P k = false := by
  have h := bset256 (P := P) hn
  constructor
  · intro e k hk
    have e2 : bset P n = 0 := (nI_eq (b := 0) (by omega) (by decide)).mp e
    have := bset_bit P n k
    rw [e2, decide_eq_true hk, Bool.true_and] at this
    rw [← this]; simp
  · intro e; rw [bset_no n e]; rfl
theorem s_majority {q : zq} {u r : zU} (h : RR q u r) : ∃ x, f_X10_majority q u = some x ∧ f_X11_majority r = some (x, z_up r 0 0 0) ∧ RR q u (z_up r 0 0 0) := by
  have h0 := h.t 0
  have hV := h0.iv
  have hR := h0.rw
  have hP := h0.cap
  generalize hr0 : z_up r 0 0 0 = r0 at *
  by_cases hz : ∀ k, k < rN (r0 1) → Pse (r0 1) k = false
  · refine ⟨0, p_majNo hR hV (fun m _ => sMa_no hV (fun k hk => by rw [hz k hk, Bool.and_false])), ?_, h0⟩
    rw [f_X11_majority_e, hr0, zl, pr_seated hV, Option.bind_some, if_pos ((bset_0 hV.n8).mpr hz)]
  · have hex : ∃ k, k < rN (r0 1) ∧ Pse (r0 1) k = true := by
      false_or_by_contra
      rename_i hc
      exact hz (fun k hk => by
        cases hp : Pse (r0 1) k with
        | false => rfl
        | true => exact absurd ⟨k, hk, hp⟩ hc)
    obtain ⟨k, hk, hs⟩ := hex
    obtain ⟨y, y1, y2⟩ := p_maj (q := q) hR hV (sMa_all hV hP hk hs) 15 1 5000 4999 0 (-1) rfl (by decide) (by decide) (by decide) (Or.inl ⟨rfl, rfl, by decide⟩)
    refine ⟨y, ?_, ?_, h0⟩
    · rw [f_X10_majority_e]; exact y1
    · have hz0 : sMa (r0 1) 0 = false := sMa_no hV (fun k hk => by unfold Ppa; simp)
      rw [f_X11_majority_e, hr0, zl, pr_seated hV, Option.bind_some, if_neg (fun e => hz ((bset_0 hV.n8).mp e)), f_X11_majority_18_s, if_neg (show ¬ (16 : Int32) ≤ 0 by decide)]
      rw [show f_X11_isMajor 0 r0 = some false from (pr_major hV (m := 0) (by decide)).trans (congrArg some hz0), Option.bind_some, if_neg Bool.false_ne_true]
      exact y2
/-! reign -/
theorem or_bit : ∀ m, m < 256 → ∀ x, x < 8 → nI m ||| ((1 : Int32) <<< (nI x &&& 31)) = nI (m ||| 2 ^ x) := by decide +kernel
theorem bset_ins {P P' : Nat → Bool} {n x : Nat} (hx : x < n) (h : P' x = true) (ho : ∀ k, k < n → k ≠ x → P' k = P k) : bset P n ||| 2 ^ x = bset P' n := by
  apply Nat.eq_of_testBit_eq
  intro i
  rw [Nat.testBit_or, bset_bit, bset_bit, Nat.testBit_two_pow]
  by_cases hi : i < n
  · rw [decide_eq_true hi, Bool.true_and, Bool.true_and]
    by_cases e : x = i
    · subst e; rw [h, decide_eq_true rfl, Bool.or_true]
    · rw [ho i hi (fun q => e q.symm), decide_eq_false e, Bool.or_false]
  · rw [decide_eq_false hi, Bool.false_and, Bool.false_and, decide_eq_false (by omega)]
    rfl
/-- who would govern if a cradle that is afforded came to the top -/
def Prg (v : Nat → Int32) : Nat → Bool := fun x => !decide (v (25 + 4 * x) = -1) && (decide (sFirst v (v (25 + 4 * x)) = nI x) && Paf v (v (25 + 4 * x)).toNatClampNeg)
def Prc (v : Nat → Int32) (c : Nat) : Nat → Bool := fun x => Prg v x && decide ((v (25 + 4 * x)).toNatClampNeg < c)
theorem pc_reign {q : zq} {u : zU} {v : Nat → Int32} (hR : RW u 6 v) (hV : IV v) : f_X10_reign q u = some (sRi v (Prg v) (rN v)) := by
  have h8 := hV.n8
  have hm : ∀ d c fuel, c + d = 8 → d < fuel → f_X10_reign_4 q fuel (nI (bset (Prc v c) (rN v))) (nI c) u = some (sRi v (Prg v) (rN v)) := by
    intro d
    induction d with
    | zero =>
      intro c fuel hc hf
      obtain ⟨m, rfl⟩ : ∃ m, fuel = m + 1 := ⟨fuel - 1, by omega⟩
      obtain rfl : c = 8 := by omega
      rw [f_X10_reign_4_s, if_pos pu_le8, pc_richestOf hR hV (bset256 h8), Option.bind_some, sRi_ext (P' := Prg v) (fun k hk => ?_)]
      rw [bset_bit, decide_eq_true hk, Bool.true_and]
      unfold Prc
      rcases hV.pl hk with hw | ⟨c, hc, hw⟩
      · have : Prg v k = false := by unfold Prg; rw [decide_eq_true hw]; rfl
        rw [this]; rfl
      · rw [hw, nI_clamp (by omega), decide_eq_true hc, Bool.and_true]
    | succ d ih =>
      intro c fuel hc hf
      obtain ⟨m, rfl⟩ : ∃ m, fuel = m + 1 := ⟨fuel - 1, by omega⟩
      have hc8 : c < 8 := by omega
      have ih2 := ih (c + 1) m (by omega) (by omega)
      rw [f_X10_reign_4_s, if_neg (pu_ge8 hc8), pc_firstIn hR hV, Option.bind_some, pc_cost hR hV (q 0) hc8, zl, hR.s11, nI_1]
      -- who is added
      have hsame : ∀ x, x < rN v → v (25 + 4 * x) ≠ nI c → Prc v (c + 1) x = Prc v c x := fun x hx hne => by
        unfold Prc
        rcases hV.pl hx with hw | ⟨e, he, hw⟩
        · have : Prg v x = false := by unfold Prg; rw [decide_eq_true hw]; rfl
          rw [this]; rfl
        · rw [hw, nI_clamp (by omega)]
          have hec : e ≠ c := fun q => hne (by rw [hw, q])
          congr 1
          by_cases hlt : e < c
          · rw [decide_eq_true hlt, decide_eq_true (by omega)]
          · rw [decide_eq_false hlt, decide_eq_false (by omega)]
      have hin : ∀ x, x < rN v → v (25 + 4 * x) = nI c → Prc v c x = false := fun x hx hw => by
        unfold Prc
        rw [hw, nI_clamp (by omega), decide_eq_false (by omega), Bool.and_false]
      rcases sFirst_spec v (nI c) with ⟨g1, g2⟩ | ⟨x, hx, g1, hp, g3⟩
      · rw [g1, if_pos rfl]
        rw [bset_ext (P' := Prc v c) _ (fun k hk => hsame k hk (g2 k hk))] at ih2
        exact ih2
      · rw [g1, if_neg (pu_m1 (by omega))]
        have hm1 : v (25 + 4 * x) ≠ -1 := by rw [hp]; exact pu_m1 (by omega)
        have hothers : ∀ k, k < rN v → v (25 + 4 * k) = nI c → k ≠ x → Prc v (c + 1) k = false := fun k hk hw hne => by
          unfold Prc Prg
          rw [hw, g1, decide_eq_false (p := nI x = nI k) (fun e => hne ((nI_eq (by omega) (by omega)).mp e).symm)]
          simp
        by_cases ha : v 6 < nI (10 * pls v c)
        · rw [if_pos ha]
          have hx0 : Prc v (c + 1) x = false := by
            unfold Prc Prg Paf
            rw [hp, nI_clamp (by omega), decide_eq_true ha]
            simp
          rw [bset_ext (P' := Prc v c) _ (fun k hk => ?_)] at ih2
          · exact ih2
          · by_cases hw : v (25 + 4 * k) = nI c
            · rw [hin k hk hw]
              by_cases e : k = x
              · rw [e]; exact hx0
              · exact hothers k hk hw e
            · exact hsame k hk hw
        · rw [if_neg ha, zl, or_bit _ (bset256 h8) x (by omega)]
          have hx1 : Prc v (c + 1) x = true := by
            unfold Prc Prg Paf
            rw [hp, nI_clamp (by omega), decide_eq_false ha, g1, decide_eq_true rfl, decide_eq_true (show c < c + 1 by omega), decide_eq_false (pu_m1 (show c < 2 ^ 31 by omega))]
            rfl
          rw [bset_ins (P' := Prc v (c + 1)) hx hx1 (fun k hk hne => ?_)]
          · exact ih2
          · by_cases hw : v (25 + 4 * k) = nI c
            · rw [hin k hk hw]; exact hothers k hk hw hne
            · exact hsame k hk hw
  rw [f_X10_reign_e]
  have h0 := hm 8 0 5000 rfl (by decide)
  rw [bset_no (rN v) (fun k hk => by unfold Prc; rw [decide_eq_false (Nat.not_lt_zero _), Bool.and_false])] at h0
  exact h0
theorem pr_reign9 {u : zU} (hV : IV (u 1)) : f_X11_reign_9 5000 (nI (bset (Paf (u 1)) 8)) (-1) 0 u = some (sRi (u 1) (Prg (u 1)) (rN (u 1)), u) := by
  have h8 := hV.n8
  refine (pu_loopI (fun n s x => f_X11_reign_9 n (nI (bset (Paf (u 1)) 8)) s x u) (rN (u 1)) (sRi1 (u 1) (Prg (u 1))) (fun s => some (s, u)) (fun k s => s = sRi (u 1) (Prg (u 1)) k) rfl (fun n k s hk hs => ⟨?_, ?_⟩) (fun n s _ => ?_) 5000 (by omega)).1
  · show f_X11_reign_9 (n + 1) (nI (bset (Paf (u 1)) 8)) s (nI k) u = _
    have hk8 : k < 8 := by omega
    rw [f_X11_reign_9_s, hV.n, if_neg (nI_ge hk (by omega)), pr_waits hk8, Option.bind_some, nI_1]
    unfold sRi1
    rcases hV.pl hk with hw | ⟨c, hc, hw⟩
    · have : Prg (u 1) k = false := by unfold Prg; rw [decide_eq_true hw]; rfl
      rw [decide_eq_true hw, if_pos rfl, this, if_neg Bool.false_ne_true]
    · have hne : u 1 (25 + 4 * k) ≠ -1 := by rw [hw]; exact pu_m1 (by omega)
      have hP : Prg (u 1) k = (decide (sFirst (u 1) (nI c) = nI k) && Paf (u 1) c) := by
        unfold Prg
        rw [decide_eq_false hne, hw, nI_clamp (by omega)]
        rfl
      rw [decide_eq_false hne, if_neg Bool.false_ne_true, pr_of0 hk8, Option.bind_some, hw, pr_firstIn hV, Option.bind_some, hP]
      by_cases hf : sFirst (u 1) (nI c) = nI k
      · rw [if_pos hf, Option.bind_some, pu_isOf (bset256 (by decide)) hc, bset_bit, decide_eq_true hc, Bool.true_and, zl, decide_eq_true hf, Bool.true_and]
        by_cases ha : Paf (u 1) c = true
        · rw [if_pos ha, if_pos ha]
          rcases sRi_c (v := u 1) (Prg (u 1)) k with h1 | ⟨f, h1, h2⟩
          · rw [hs, h1, if_pos rfl, if_pos rfl]
          · rw [hs, h2, if_neg (pu_m1 (by omega)), if_neg (pu_m1 (by omega)), pr_of2 hk8, Option.bind_some, pr_of2 (by omega), Option.bind_some, nI_clamp (by omega)]
            by_cases hcc : u 1 (27 + 4 * k) ≤ u 1 (27 + 4 * f)
            · rw [if_pos hcc, if_pos hcc]
            · rw [if_neg hcc, if_neg hcc]
        · rw [if_neg ha, if_neg ha]
      · rw [if_neg hf, decide_eq_false hf, Bool.false_and, if_neg Bool.false_ne_true]
  · rw [hs]; rfl
  · show f_X11_reign_9 (n + 1) (nI (bset (Paf (u 1)) 8)) s (nI (rN (u 1))) u = _
    rw [f_X11_reign_9_s, hV.n, if_pos (nI_le (Nat.le_refl _) (by omega))]
theorem s_reign {q : zq} {u r : zU} (h : RR q u r) : ∃ x, f_X10_reign q u = some x ∧ f_X11_reign r = some (x, z_up r 0 0 0) ∧ RR q u (z_up r 0 0 0) := by
  have hV := h.iv
  refine ⟨_, pc_reign h.rw hV, ?_, h.t 0⟩
  rw [f_X11_reign_e, pr_affords hV, z_b2s]
  exact pr_reign9 (u := z_up r 0 0 0) hV
