/-! PURE, 37: ask -/
theorem as0 : ∀ m, m < 64 → ∀ i, i < 5 → bcC (nI m &&& (((2 : Int32) <<< (nI i &&& 31)) - 1)) = nI (bcnt (fun k => m.testBit k) (i + 1)) ∧ ((nI m >>> (nI i &&& 31)) &&& (1 : Int32)) = (if m.testBit i = true then 1 else 0) := by decide +kernel
theorem bcnt_to (P : Nat → Bool) : ∀ d k, bcnt P k ≤ bcnt P (k + d)
  | 0, k => Nat.le_refl _
  | d + 1, k => by
    have := bcnt_to P d k
    rw [show k + (d + 1) = (k + d) + 1 by omega, bcnt_s]
    split <;> omega
theorem mx_k {a c : Nat} (h : a ≤ c) (hc : c ≤ 8) : ∃ k, k ≤ c ∧ z_max (nI a) (nI c - nI a) = nI k := by
  have e : nI c - nI a = nI (c - a) := by
    rw [show nI c = nI (c - a) + nI a by rw [nI_add]; congr 1; omega]
    lia
  rw [e]
  show ∃ k, k ≤ c ∧ (if nI a < nI (c - a) then nI (c - a) else nI a) = nI k
  split
  · exact ⟨_, by omega, rfl⟩
  · exact ⟨_, by omega, rfl⟩
theorem p_ask {q : zq} {u r : zU} {m : Nat} (hm : m < 64) : ∀ d i fuel b ca ra, i + d = 5 → d < fuel → ((b = -1 ∧ ca = nI (sbc m) + 1 ∧ ra = 2000000000) ∨ ca = ra) → ∃ y, f_X10_ask_35 q fuel (nI m) (nI (sbc m)) b ca (nI i) u = some (.inr y, q, u) ∧ f_X11_ask_46 fuel (nI m) (nI (sbc m)) b ra (nI (bcnt (fun k => m.testBit k) i)) (nI i) r = some (y, r) := by
  have h8 : sbc m ≤ 8 := bcnt_le _ _
  intro d
  induction d with
  | zero =>
    intro i fuel b ca ra hi hf hI
    obtain ⟨n, rfl⟩ : ∃ n, fuel = n + 1 := ⟨fuel - 1, by omega⟩
    obtain rfl : i = 5 := by omega
    rw [f_X10_ask_35_s, f_X11_ask_46_s, if_pos (show (5 : Int32) ≤ nI 5 by decide), if_pos (show (5 : Int32) ≤ nI 5 by decide)]
    exact ⟨_, rfl, rfl⟩
  | succ d ih =>
    intro i fuel b ca ra hi hf hI
    obtain ⟨n, rfl⟩ : ∃ n, fuel = n + 1 := ⟨fuel - 1, by omega⟩
    have hi5 : i < 5 := by omega
    obtain ⟨s1, s2⟩ := as0 m hm i hi5
    have hn5 : ¬ (5 : Int32) ≤ nI i := nI_ge (b := 5) hi5 (by decide)
    have s3 : nI (bcnt (fun k => m.testBit k) i) + ((nI m >>> (nI i &&& 31)) &&& (1 : Int32)) = nI (bcnt (fun k => m.testBit k) (i + 1)) := by
      rw [s2, bcnt_s]
      split
      · rw [nI_1]
      · rw [Int32.add_zero]
    have hle : bcnt (fun k => m.testBit k) (i + 1) ≤ sbc m := by
      have := bcnt_to (fun k => m.testBit k) (8 - (i + 1)) (i + 1)
      rw [show i + 1 + (8 - (i + 1)) = 8 by omega] at this
      exact this
    obtain ⟨k, hk, ek⟩ := mx_k hle h8
    have eg : f_X11_greater (nI (bcnt (fun k => m.testBit k) (i + 1))) (nI (sbc m) - nI (bcnt (fun k => m.testBit k) (i + 1))) r = nI k := by rw [← ek, f_X11_greater_e, z_max_eq]
    rw [f_X10_ask_35_s, f_X11_ask_46_s, if_neg hn5, if_neg hn5]
    by_cases h1 : nI (sbc m) ≤ 1
    · rw [if_pos h1, if_pos h1]
      exact ⟨_, rfl, rfl⟩
    · rw [if_neg h1, if_neg h1, show f_J6_bitCount_0f7a4 (nI m &&& (((2 : Int32) <<< (nI i &&& 31)) - 1)) u = nI (bcnt (fun k => m.testBit k) (i + 1)) from s1, zl, ek, zl, s3, zl, eg, zl, zl, nI_1]
      have ih2 := fun b ca ra => ih (i + 1) n b ca ra (by omega) (by omega)
      rcases hI with ⟨e1, e2, e3⟩ | e
      · rw [e2, e3, nI_1, if_neg (nI_ge (show k < sbc m + 1 by omega) (by omega)), if_pos (show nI k < (2000000000 : Int32) from nI_lt (a := k) (b := 2000000000) (by omega) (by decide))]
        exact ih2 (nI i) (nI k) (nI k) (Or.inr rfl)
      · rw [e]
        by_cases h : ra ≤ nI k
        · rw [if_pos h, if_neg (Int32.not_lt.mpr h)]
          exact ih2 b ra ra (Or.inr rfl)
        · rw [if_neg h, if_pos (Int32.not_le.mp h)]
          exact ih2 (nI i) (nI k) (nI k) (Or.inr rfl)
theorem s_ask {q : zq} {u r : zU} (h : RR q u r) : ∃ o u' x r', f_X10_ask q u = some (o, q, u') ∧ f_X11_ask r = some (x, r') ∧ RR q u' r' ∧ ANS [(eIA, 1)] o x (r' 0 0) := by
  have h0 := h.len (n := 0) (by decide)
  rcases p_heights (q := q) h.tp with ⟨n, hn, a1, a2, a3⟩ | ⟨a1, a3⟩
  · have hlt := bset_lt (PF (r 5) n) 6
    have hm : bset (PF (r 5) n) 6 < 64 := hlt
    obtain ⟨y, y1, y2⟩ := p_ask (q := q) (u := z_up u 1 1 0) (r := z_up (z_up r 0 8 0) 0 0 0) hm 5 0 5000 (-1) _ 2000000000 rfl (by decide) (Or.inl ⟨rfl, rfl, rfl⟩)
    have hc : f_X10_ask q u = some (.inr y, q, z_up u 1 1 0) := by
      rw [f_X10_ask_e, a1, z_bxr, a2, Option.bind_some, zl, pu_bitC (by omega), zl, zl]
      exact y1
    have hr : f_X11_ask r = some (y, z_up (z_up r 0 8 0) 0 0 0) := by
      rw [f_X11_ask_e, a3, z_b2s, if_neg (pu_m1 (by omega)), zl, t00, if_pos (by decide), pu_bits0 (by omega), Option.bind_some]
      exact y2
    exact ⟨_, _, _, _, hc, hr, h0.t 0, ⟨t00 _ _, rfl⟩⟩
  · have hc : f_X10_ask q u = some (.inl eIA, q, z_up u 1 1 0) := by rw [f_X10_ask_e, a1, z_bxl]
    have hr : f_X11_ask r = some (0, z_up (z_up r 0 8 0) 0 0 1) := by rw [f_X11_ask_e, a3, z_b2s, if_pos rfl, zl, t00, if_neg (by decide)]
    exact ⟨_, _, _, _, hc, hr, h0.t 1, by simp [ANS, t00]⟩
