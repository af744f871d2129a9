/-! PURE, 35: best, rules -/
theorem and7A (a : Int32) : ∃ k, k < 8 ∧ a &&& 7 = nI k := by
  refine ⟨(a.toBitVec &&& 7#32).toNat, ?_, ?_⟩
  · rw [BitVec.toNat_and]
    have : a.toBitVec.toNat &&& (7#32).toNat ≤ (7#32).toNat := Nat.and_le_right
    exact Nat.lt_of_le_of_lt this (by decide)
  · apply Int32.toBitVec_inj.1
    show a.toBitVec &&& 7#32 = BitVec.ofNat 32 (a.toBitVec &&& 7#32).toNat
    simp
def opA (v : Nat → Int32) (c : Int32) : Bool := !decide (v (17 + (c &&& 7).toNatClampNeg) ≤ 0) && decide (bcnt (Pin v c) (rN v) < 2)
theorem pc_isOpenA {u : zU} {w : Nat} {v : Nat → Int32} (hR : RW u w v) (hV : IV v) (L : Nat → Nat) (a : Int32) : f_X9_isOpen w L a u = some (opA v a) := by
  have h8 := hV.n8
  have hb := bcnt_le (Pin v a) (rN v)
  obtain ⟨k, hk, e⟩ := and7A a
  rw [f_X9_isOpen_e, e, if_pos (pu_in hk (by decide)), pc_ridersIn hR hV, zl, nI_clamp (by omega), hR.bo hk, Option.bind_some, pu_bitD h8, zl, pr_hasRoom3 _ _ (by omega)]
  unfold opA
  rw [e, nI_clamp (by omega)]
theorem opA_c {v : Nat → Int32} {c : Nat} (hc : c < 8) : opA v (nI c) = sOpen v c := by
  unfold opA sOpen
  rw [pu_and7 c hc, nI_clamp (by omega)]
theorem p_best {r : zU} (hV : IV (r 1)) {al : Int32} (h0 : ¬ al = 0) {W : Nat → Int32} (hW : ∀ j, j < 8 → W j = (10000 * r 7 j) / al) {op : Int32 → Bool} (hop : ∀ c, c < 8 → op (nI c) = sOpen (r 1) c) : ∀ d c fuel fo, c + d = 8 → d < fuel → (fo = -1 ∨ ∃ j, j < 8 ∧ fo = nI j) → ∃ y, f_best op W fuel fo (nI c) = some y ∧ f_X11_best_38 fuel al fo (nI c) r = some (y, r) := by
  intro d
  induction d with
  | zero =>
    intro c fuel fo hc hf hfo
    obtain ⟨m, rfl⟩ : ∃ m, fuel = m + 1 := ⟨fuel - 1, by omega⟩
    obtain rfl : c = 8 := by omega
    rw [f_X11_best_38_s, if_pos pu_le8]
    unfold f_best
    rw [if_pos pu_le8]
    exact ⟨_, rfl, rfl⟩
  | succ d ih =>
    intro c fuel fo hc hf hfo
    obtain ⟨m, rfl⟩ : ∃ m, fuel = m + 1 := ⟨fuel - 1, by omega⟩
    have hc8 : c < 8 := by omega
    have hc31 : c < 2 ^ 31 := by omega
    rw [f_X11_best_38_s, if_neg (pu_ge8 hc8), pr_hasRoom hV hc8, Option.bind_some, nI_1]
    unfold f_best
    rw [if_neg (pu_ge8 hc8), hop c hc8, nI_1]
    have ih2 := fun fo => ih (c + 1) m fo (by omega) (by omega)
    cases sOpen (r 1) c with
    | false =>
      rw [if_neg Bool.false_ne_true, if_neg Bool.false_ne_true]
      exact ih2 fo hfo
    | true =>
      rw [if_pos rfl, if_pos rfl]
      rcases hfo with e | ⟨j, hj, e⟩
      · rw [if_pos e, if_pos e]
        exact ih2 (nI c) (Or.inr ⟨c, hc8, rfl⟩)
      · have hne : ¬ fo = -1 := by rw [e]; exact pu_m1 (by omega)
        have hj31 : j < 2 ^ 31 := by omega
        rw [if_neg hne, if_neg hne, e, if_pos ⟨pu_in hc8 (by decide), pu_in hj (by decide)⟩, if_pos (pu_in hc8 (by decide)), zl, if_pos h0, if_pos (pu_in hj (by decide)), zl, if_pos h0, nI_clamp hc31, nI_clamp hj31, hW c hc8, hW j hj]
        by_cases h : (10000 * r 7 c) / al ≤ (10000 * r 7 j) / al
        · rw [if_pos h, if_pos h]
          exact ih2 (nI j) (Or.inr ⟨j, hj, rfl⟩)
        · rw [if_neg h, if_neg h]
          exact ih2 (nI c) (Or.inr ⟨c, hc8, rfl⟩)
theorem s_best {q : zq} {u r : zU} (h : RR q u r) (a : Int32) : ∃ o x r', f_X10_best (opA (r 1)) q a u = some (o, q, u) ∧ f_X11_best a r = some (x, r') ∧ RR q u r' ∧ ANS [(eIA, 1)] o x (r' 0 0) := by
  have hV := h.iv
  rcases need_n (q := q) (u := u) a 1 5 r with ⟨l1, l2, f2, f3⟩ | ⟨f2, f3⟩
  · obtain ⟨n, n1, n5, rfl⟩ := num5 l1 l2
    obtain ⟨R, R1, R8, h7⟩ := hV.v7
    obtain ⟨r', y1, y2, y3⟩ := pr_counts (r := z_up r 0 0 0) hV h7 R8 n5
    have e1 : r' 1 = r 1 := y2 1 (by decide) (by decide)
    obtain ⟨y, z1, z2⟩ := p_best (r := r') (by rw [e1]; exact hV) (pw_0 (n := n) R1 R8 n5) (W := wl (nI (R ^ n)) (wy R (tP (r 1)) n) 8) (fun j hj => by rw [wl_8 hj, y3 j hj]; rfl) (op := opA (r 1)) (fun c hc => by rw [e1]; exact opA_c hc) 8 0 5000 (-1) rfl (by decide) (Or.inl rfl)
    have hc : f_X10_best (opA (r 1)) q (nI n) u = some (.inr y, q, u) := by
      unfold f_X10_best
      rw [f2, z_bxr, pc_oddsBy h.rw hV R1 R8 h7 n5, Option.bind_some, show (0 : Int32) = nI 0 from rfl, z1, Option.bind_some]
    have hr : f_X11_best (nI n) r = some (y, r') := by
      rw [f_X11_best_e, f3, zl, if_pos rfl, zl, t00, if_pos (by decide), y1, z_b2s]
      exact z2
    exact ⟨_, _, _, hc, hr, (h.t 0).e78 y2, ⟨by rw [y2 0 (by decide) (by decide), t00], rfl⟩⟩
  · have hc : f_X10_best (opA (r 1)) q a u = some (.inl eIA, q, u) := by unfold f_X10_best; rw [f2, z_bxl]
    have hr : f_X11_best a r = some (0, z_up r 0 0 1) := by rw [f_X11_best_e, f3, zl, if_neg Bool.false_ne_true, zl, t00, if_neg (by decide)]
    exact ⟨_, _, _, hc, hr, h.t 1, by simp [ANS, t00]⟩
theorem p_rules {u r : zU} (hR : RW u 6 (r 1)) (hV : IV (r 1)) {al : Int32} (h0 : ¬ al = 0) {W : Nat → Int32} (hW : ∀ j, j < 8 → W j = (10000 * r 7 j) / al) (a : Int32) : ∀ d c fuel s, c + d = 8 → d < fuel → ∃ y, f_rules (sFirst (r 1)) (u 10) a W fuel s (nI c) = some y ∧ f_X11_rules_50 fuel a al s (nI c) r = some (y, r) := by
  have h8 := hV.n8
  intro d
  induction d with
  | zero =>
    intro c fuel s hc hf
    obtain ⟨m, rfl⟩ : ∃ m, fuel = m + 1 := ⟨fuel - 1, by omega⟩
    obtain rfl : c = 8 := by omega
    rw [f_X11_rules_50_s, if_pos pu_le8]
    unfold f_rules
    rw [if_pos pu_le8]
    exact ⟨_, rfl, rfl⟩
  | succ d ih =>
    intro c fuel s hc hf
    obtain ⟨m, rfl⟩ : ∃ m, fuel = m + 1 := ⟨fuel - 1, by omega⟩
    have hc8 : c < 8 := by omega
    have hc31 : c < 2 ^ 31 := by omega
    have ih2 := fun s => ih (c + 1) m s (by omega) (by omega)
    rw [f_X11_rules_50_s, if_neg (pu_ge8 hc8), pr_firstIn hV, Option.bind_some, nI_1]
    unfold f_rules
    rw [if_neg (pu_ge8 hc8), nI_1]
    rcases sFirst_spec (r 1) (nI c) with ⟨e, -⟩ | ⟨x, hx, e, -⟩
    · rw [if_pos e, if_pos e, zl, Int32.add_zero]
      exact ih2 s
    · have hx8 : x < 8 := by omega
      have hx31 : x < 2 ^ 31 := by omega
      have hne : ¬ sFirst (r 1) (nI c) = -1 := by rw [e]; exact pu_m1 (by omega)
      rw [if_neg hne, if_neg hne, e, if_pos ⟨pu_in hx8 (by decide), pu_in hc8 (by decide)⟩, pr_of3 hx8, Option.bind_some, nI_clamp hx31, hR.a10 hx8]
      by_cases hp : r 1 (28 + 4 * x) = a
      · rw [if_pos hp, if_pos hp, if_pos (pu_in hc8 (by decide)), zl, if_pos h0, zl, nI_clamp hc31, hW c hc8]
        exact ih2 _
      · rw [if_neg hp, if_neg hp, zl, Int32.add_zero]
        exact ih2 s
theorem s_rules {q : zq} {u r : zU} (h : RR q u r) (a b : Int32) : ∃ o x r', f_X10_rules (sFirst (r 1)) q a b u = some (o, q, u) ∧ f_X11_rules a b r = some (x, r') ∧ RR q u r' ∧ ANS [(eIO, 1), (eIA, 2)] o x (r' 0 0) := by
  have hV := h.iv
  rcases need_p (q := q) (u := u) a r with ⟨p, hp, e1, e2, e3⟩ | ⟨e2, e3⟩
  · rcases need_n (q := q) (u := u) b 1 5 r with ⟨l1, l2, f2, f3⟩ | ⟨f2, f3⟩
    · obtain ⟨n, n1, n5, rfl⟩ := num5 l1 l2
      obtain ⟨R, R1, R8, h7⟩ := hV.v7
      obtain ⟨r', y1, y2, y3⟩ := pr_counts (r := z_up r 0 0 0) hV h7 R8 n5
      have e1' : r' 1 = r 1 := y2 1 (by decide) (by decide)
      obtain ⟨y, z1, z2⟩ := p_rules (u := u) (r := r') (by rw [e1']; exact h.rw) (by rw [e1']; exact hV) (pw_0 (n := n) R1 R8 n5) (W := wl (nI (R ^ n)) (wy R (tP (r 1)) n) 8) (fun j hj => by rw [wl_8 hj, y3 j hj]; rfl) a 8 0 5000 0 rfl (by decide)
      rw [e1'] at z1
      have hc : f_X10_rules (sFirst (r 1)) q a (nI n) u = some (.inr y, q, u) := by
        unfold f_X10_rules
        rw [e2, z_bxr, f2, z_bxr, pc_oddsBy h.rw hV R1 R8 h7 n5, Option.bind_some]
        exact (congrArg (fun t => Option.bind t (fun r => some (Sum.inr r, q, u))) z1)
      have hr : f_X11_rules a (nI n) r = some (y, r') := by
        rw [f_X11_rules_e, e3, zl, if_pos rfl, f3, zl, if_pos rfl, zl, t00, if_pos (by decide), y1, z_b2s]
        exact z2
      exact ⟨_, _, _, hc, hr, (h.t 0).e78 y2, ⟨by rw [y2 0 (by decide) (by decide), t00], rfl⟩⟩
    · have hc : f_X10_rules (sFirst (r 1)) q a b u = some (.inl eIA, q, u) := by unfold f_X10_rules; rw [e2, z_bxr, f2, z_bxl]
      have hr : f_X11_rules a b r = some (0, z_up r 0 0 2) := by rw [f_X11_rules_e, e3, zl, if_pos rfl, f3, zl, if_neg Bool.false_ne_true, zl, t00, if_neg (by decide)]
      exact ⟨_, _, _, hc, hr, h.t 2, by simp [ANS, t00]⟩
  · have hc : f_X10_rules (sFirst (r 1)) q a b u = some (.inl eIO, q, u) := by unfold f_X10_rules; rw [e2, z_bxl]
    have hr : f_X11_rules a b r = some (0, z_up r 0 0 1) := by rw [f_X11_rules_e, e3, zl, if_neg Bool.false_ne_true, zl, t00, if_neg (by decide)]
    exact ⟨_, _, _, hc, hr, h.t 1, by simp [ANS, t00]⟩
