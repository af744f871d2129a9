/-! PURE, 2: sets as numbers, the row's invariant, the leaves of both sides -/
/-- the set of the r below N that P takes, as bits -/
def bset (P : Nat → Bool) (N : Nat) : Nat := zfo (fun r s => if P r = true then s + 2 ^ r else s) N 0
def bcnt (P : Nat → Bool) (N : Nat) : Nat := zfo (fun r s => if P r = true then s + 1 else s) N 0
theorem bset_s (P : Nat → Bool) (N : Nat) : bset P (N + 1) = if P N = true then bset P N + 2 ^ N else bset P N := rfl
theorem bcnt_s (P : Nat → Bool) (N : Nat) : bcnt P (N + 1) = if P N = true then bcnt P N + 1 else bcnt P N := rfl
theorem bset_lt (P : Nat → Bool) : ∀ N, bset P N < 2 ^ N
  | 0 => by show 0 < 1; decide
  | N + 1 => by
    have := bset_lt P N
    rw [bset_s, Nat.pow_succ]
    split <;> omega
theorem bset_ext {P P' : Nat → Bool} (N : Nat) (h : ∀ k, k < N → P k = P' k) : bset P N = bset P' N := zfo_ext N (fun k hk => by rw [h k hk])
theorem bcnt_ext {P P' : Nat → Bool} (N : Nat) (h : ∀ k, k < N → P k = P' k) : bcnt P N = bcnt P' N := zfo_ext N (fun k hk => by rw [h k hk])
theorem bcnt_le (P : Nat → Bool) : ∀ N, bcnt P N ≤ N
  | 0 => Nat.le_refl 0
  | N + 1 => by
    have := bcnt_le P N
    rw [bcnt_s]
    split <;> omega
theorem bset_bit (P : Nat → Bool) : ∀ N r, (bset P N).testBit r = (decide (r < N) && P r)
  | 0, r => by simp [bset, zfo]
  | N + 1, r => by
    have hl := bset_lt P N
    have ih := bset_bit P N r
    rw [bset_s]
    by_cases hP : P N = true
    · rw [if_pos hP, show bset P N + 2 ^ N = 2 ^ N * 1 + bset P N by omega, Nat.testBit_two_pow_mul_add 1 hl, ih]
      by_cases h2 : r < N
      · have h3 : r < N + 1 := by omega
        simp [h2, h3]
      · by_cases e : r = N
        · subst e; simp [hP]
        · have h3 : ¬ r < N + 1 := by omega
          rw [if_neg h2]
          obtain ⟨d, hd⟩ : ∃ d, r - N = d + 1 := ⟨r - N - 1, by omega⟩
          rw [hd, Nat.testBit_add_one]
          simp [h3]
    · rw [if_neg hP, ih]
      by_cases e : r = N
      · subst e; simp [hP]
      · by_cases h2 : r < N
        · have h3 : r < N + 1 := by omega
          simp [h2, h3]
        · have h3 : ¬ r < N + 1 := by omega
          simp [h2, h3]
theorem pu_or0 : ∀ r, r < 8 → ∀ m, m < 2 ^ r → nI m ||| ((1 : Int32) <<< (nI r &&& 31)) = nI (m + 2 ^ r) := by decide +kernel
/-- a loop that gathers bits -/
theorem pu_bset {β : Type} (F : Nat → Int32 → Int32 → Option β) (N : Nat) (P : Nat → Bool) (K : Int32 → Option β) (hN : N ≤ 8)
    (hs : ∀ n k s, k < N → F (n + 1) s (nI k) = F n (if P k = true then s ||| ((1 : Int32) <<< (nI k &&& 31)) else s) (nI (k + 1)))
    (he : ∀ n s, F (n + 1) s (nI N) = K s) (fuel : Nat) (hf : N < fuel) : F fuel 0 0 = K (nI (bset P N)) := by
  have h := pu_loopI F N (fun k s => if P k = true then s ||| ((1 : Int32) <<< (nI k &&& 31)) else s) K (fun k s => s = nI (bset P k)) (s := 0) rfl (fun n k s hk hi => ⟨hs n k s hk, ?_⟩) (fun n s _ => he n s) fuel hf
  · rw [h.1, h.2]
  · subst hi
    rw [bset_s]
    split
    · exact pu_or0 k (by omega) _ (bset_lt P k)
    · rfl
theorem popc0 : ∀ m, m < 256 → zfo (fun k s => s + ((nI m >>> (nI k &&& 31)) &&& 1)) 31 0 = nI (bcnt (fun r => m.testBit r) 8) := by decide +kernel
theorem pu_bits0 {m : Nat} (hm : m < 256) (u : zU) : f_X11_bits (nI m) u = some (nI (bcnt (fun r => m.testBit r) 8)) := by
  rw [f_X11_bits_e, ← popc0 m hm]
  refine pu_loop (fun n s x => f_X11_bits_4 n (nI m) s x u) 31 _ some (fun n k s hk => ?_) (fun n s => ?_) 5000 (by decide)
  · show f_X11_bits_4 (n + 1) (nI m) s (nI k) u = _
    rw [f_X11_bits_4_s, if_neg (show ¬ (31 : Int32) ≤ nI k from nI_ge (b := 31) hk (by decide))]
    simp only [z_let, nI_1]
  · show f_X11_bits_4 (n + 1) (nI m) s (nI 31) u = _
    rw [f_X11_bits_4_s, if_pos (by decide)]
def bcC (a : Int32) : Int32 := z_let (a - ((z_ushr a (1 : Int32)) &&& (1431655765 : Int32))) (fun z1 => z_let ((z1 &&& (858993459 : Int32)) + ((z_ushr z1 (2 : Int32)) &&& (858993459 : Int32))) (fun z2 => z_let ((z2 + (z_ushr z2 (4 : Int32))) &&& (252645135 : Int32)) (fun z3 => z_let (z3 + (z_ushr z3 (8 : Int32))) (fun z4 => z_let (z4 + (z_ushr z4 (16 : Int32))) (fun z5 => z5 &&& (63 : Int32))))))
theorem bcC0 : ∀ m, m < 256 → bcC (nI m) = nI (bcnt (fun r => m.testBit r) 8) := by decide +kernel
theorem pu_bitC {m : Nat} (hm : m < 256) (u : zU) : f_J6_bitCount_0f7a4 (nI m) u = nI (bcnt (fun r => m.testBit r) 8) := bcC0 m hm
theorem bcnt_bset (P : Nat → Bool) : ∀ N M, N ≤ M → bcnt (fun r => (bset P N).testBit r) M = bcnt P N := by
  intro N M h
  have h1 : ∀ k, k ≤ M → bcnt (fun r => (bset P N).testBit r) k = bcnt P (min k N) := by
    intro k
    induction k with
    | zero => intro _; simp [bcnt, zfo]
    | succ k ih =>
      intro hk
      rw [bcnt_s, ih (by omega), bset_bit]
      by_cases h2 : k < N
      · rw [show min (k + 1) N = k + 1 by omega, bcnt_s, show min k N = k by omega]
        simp [h2]
      · rw [show min (k + 1) N = N by omega, show min k N = N by omega]
        simp [h2]
  rw [h1 M (Nat.le_refl M), show min M N = N by omega]
theorem pu_bits {P : Nat → Bool} {N : Nat} (hN : N ≤ 8) (u : zU) : f_X11_bits (nI (bset P N)) u = some (nI (bcnt P N)) := by
  have h := bset_lt P N
  have h2 : 2 ^ N ≤ 2 ^ 8 := Nat.pow_le_pow_right (by decide) hN
  rw [pu_bits0 (by omega), bcnt_bset P N 8 hN]
theorem pu_bitD {P : Nat → Bool} {N : Nat} (hN : N ≤ 8) (u : zU) : f_J6_bitCount_0f7a4 (nI (bset P N)) u = nI (bcnt P N) := by
  have h := bset_lt P N
  have h2 : 2 ^ N ≤ 2 ^ 8 := Nat.pow_le_pow_right (by decide) hN
  rw [pu_bitC (by omega), bcnt_bset P N 8 hN]
theorem bset256 {P : Nat → Bool} {N : Nat} (hN : N ≤ 8) : bset P N < 256 := by
  have h := bset_lt P N
  have h2 : 2 ^ N ≤ 2 ^ 8 := Nat.pow_le_pow_right (by decide) hN
  omega
theorem isOf0 : ∀ m, m < 256 → ∀ k, k < 8 → (decide (((nI m >>> (nI k &&& 31)) &&& (1 : Int32)) = 1)) = m.testBit k := by decide +kernel
theorem pu_isOf {m k : Nat} (hm : m < 256) (hk : k < 8) (u : zU) : f_X11_isOf (nI m) (nI k) u = m.testBit k := by
  rw [f_X11_isOf_e, ← isOf0 m hm k hk]
  split <;> simp [*]
theorem pu_l17 (k : Nat) : (17 : Int32) + nI k = nI (17 + k) := nI_add 17 k
theorem pu_l57 (k : Nat) : (57 : Int32) + nI k = nI (57 + k) := nI_add 57 k
theorem pu_l13 (k : Nat) : (13 : Int32) + nI k = nI (13 + k) := nI_add 13 k
theorem pu_l65 (k : Nat) : (65 : Int32) + nI k = nI (65 + k) := nI_add 65 k
/-! the row's invariant -/
def rN (v : Nat → Int32) : Nat := (v 3).toNatClampNeg
def tP (v : Nat → Int32) : Nat := (v 4).toNatClampNeg
def wN (v : Nat → Int32) : Nat := (v 10).toNatClampNeg
def sm (x : Int32) (m : Nat) : Prop := ∃ k : Nat, k ≤ m ∧ x = nI k
def IVa (v : Nat → Int32) : Prop := (v 3 = nI (rN v) ∧ rN v ≤ 8) ∧ (v 4 = nI (tP v) ∧ tP v < 8) ∧ (v 10 = nI (wN v) ∧ wN v = bcnt (fun r => decide (v (25 + 4 * r) = -1)) (rN v)) ∧
  (∀ r, r < rN v → v (25 + 4 * r) = -1 ∨ ∃ k, k < 8 ∧ v (25 + 4 * r) = nI k)
def IVb (v : Nat → Int32) : Prop := (∀ r, r < 8 → sm (v (26 + 4 * r)) 9 ∧ sm (v (27 + 4 * r)) 999 ∧ sm (v (28 + 4 * r)) 3 ∧ sm (v (17 + r)) 9) ∧
  sm (v 5) 99 ∧ sm (v 6) 9999 ∧ (∃ k, 1 ≤ k ∧ k ≤ 8 ∧ v 7 = nI k) ∧ sm (v 8) 100 ∧ sm (v 9) 9999
def IVc (v : Nat → Int32) : Prop := (∀ i, i < wN v → ∃ x, x < rN v ∧ v (57 + i) = nI x ∧ v (25 + 4 * x) = -1) ∧ (∀ i j, i < wN v → j < wN v → v (57 + i) = v (57 + j) → i = j) ∧
  (∀ x, x < rN v → v (25 + 4 * x) = -1 → ∃ i, i < wN v ∧ v (57 + i) = nI x)
def IV (v : Nat → Int32) : Prop := IVa v ∧ IVb v ∧ IVc v
theorem IV.n {v : Nat → Int32} (h : IV v) : v 3 = nI (rN v) := h.1.1.1
theorem IV.n8 {v : Nat → Int32} (h : IV v) : rN v ≤ 8 := h.1.1.2
theorem IV.t {v : Nat → Int32} (h : IV v) : v 4 = nI (tP v) := h.1.2.1.1
theorem IV.t8 {v : Nat → Int32} (h : IV v) : tP v < 8 := h.1.2.1.2
theorem IV.w {v : Nat → Int32} (h : IV v) : v 10 = nI (wN v) := h.1.2.2.1.1
theorem IV.wc {v : Nat → Int32} (h : IV v) : wN v = bcnt (fun r => decide (v (25 + 4 * r) = -1)) (rN v) := h.1.2.2.1.2
theorem IV.w8 {v : Nat → Int32} (h : IV v) : wN v ≤ rN v := by rw [h.wc]; exact bcnt_le _ _
theorem IV.pl {v : Nat → Int32} (h : IV v) {r : Nat} (hr : r < rN v) : v (25 + 4 * r) = -1 ∨ ∃ k, k < 8 ∧ v (25 + 4 * r) = nI k := h.1.2.2.2 r hr
/-- those in a cradle -/
def Pin (v : Nat → Int32) (c : Int32) : Nat → Bool := fun r => decide (v (25 + 4 * r) = c)
theorem pc_ridersIn {u : zU} {w : Nat} {v : Nat → Int32} (hR : RW u w v) (hV : IV v) (L : Nat → Nat) (c : Int32) : f_X9_ridersIn w L c u = some (nI (bset (Pin v c) (rN v))) := by
  have h8 := hV.n8
  rw [f_X9_ridersIn_e]
  refine pu_bset (fun n s x => f_X9_ridersIn_4 w L n c s x u) (rN v) (Pin v c) some h8 (fun n k s hk => ?_) (fun n s => ?_) 5000 (by omega)
  · show f_X9_ridersIn_4 w L (n + 1) c s (nI k) u = _
    rw [f_X9_ridersIn_4_s, hR.s8, hV.n, if_neg (nI_ge hk (by omega)), if_pos (pu_in (by omega) (by decide))]
    simp only [z_let, nI_1, nI_clamp (show k < 2 ^ 31 by omega), hR.pl (show k < 8 by omega), Pin, decide_eq_true_eq]
    split <;> rfl
  · show f_X9_ridersIn_4 w L (n + 1) c s (nI (rN v)) u = _
    rw [f_X9_ridersIn_4_s, hR.s8, hV.n, if_pos (nI_le (Nat.le_refl _) (by omega))]
theorem pr_of {u : zU} {x j : Nat} (hx : x < 8) (hj : j < 4) : f_X11_of (nI x) (nI j) u = some (u 1 (25 + 4 * x + j)) := by
  rw [f_X11_of_e, show ((25 : Int32) + (4 : Int32) * nI x) + nI j = nI (25 + 4 * x + j) by rw [pu_lit 25, pu_lit 4, pu_mul, nI_add, nI_add], if_pos (pu_in (by omega) (by decide))]
  simp only [z_let, nI_clamp (show 25 + 4 * x + j < 2 ^ 31 by omega)]
theorem pr_of0 {u : zU} {x : Nat} (hx : x < 8) : f_X11_of (nI x) 0 u = some (u 1 (25 + 4 * x)) := pr_of (j := 0) hx (by decide)
theorem pr_of1 {u : zU} {x : Nat} (hx : x < 8) : f_X11_of (nI x) 1 u = some (u 1 (26 + 4 * x)) := by rw [show 26 + 4 * x = 25 + 4 * x + 1 by omega]; exact pr_of (j := 1) hx (by decide)
theorem pr_of2 {u : zU} {x : Nat} (hx : x < 8) : f_X11_of (nI x) 2 u = some (u 1 (27 + 4 * x)) := by rw [show 27 + 4 * x = 25 + 4 * x + 2 by omega]; exact pr_of (j := 2) hx (by decide)
theorem pr_of3 {u : zU} {x : Nat} (hx : x < 8) : f_X11_of (nI x) 3 u = some (u 1 (28 + 4 * x)) := by rw [show 28 + 4 * x = 25 + 4 * x + 3 by omega]; exact pr_of (j := 3) hx (by decide)
theorem pr_those {u : zU} (hV : IV (u 1)) (c : Int32) : f_X11_those c u = some (nI (bset (Pin (u 1) c) (rN (u 1)))) := by
  have h8 := hV.n8
  rw [f_X11_those_e]
  refine pu_bset (fun n s x => f_X11_those_4 n c s x u) (rN (u 1)) (Pin (u 1) c) some h8 (fun n k s hk => ?_) (fun n s => ?_) 5000 (by omega)
  · show f_X11_those_4 (n + 1) c s (nI k) u = _
    rw [f_X11_those_4_s, hV.n, if_neg (nI_ge hk (by omega)), pr_of0 (by omega)]
    simp only [Option.bind_some, z_let, nI_1, Pin, decide_eq_true_eq, Int32.or_zero]
    split <;> rfl
  · show f_X11_those_4 (n + 1) c s (nI (rN (u 1))) u = _
    rw [f_X11_those_4_s, hV.n, if_pos (nI_le (Nat.le_refl _) (by omega))]
/-- the first in a cradle -/
def sFirst (v : Nat → Int32) (c : Int32) : Int32 := zfi (Pin v c) (rN v) 0
theorem pc_firstIn {u : zU} {w : Nat} {v : Nat → Int32} (hR : RW u w v) (hV : IV v) (L : Nat → Nat) (c : Int32) : f_X9_firstIn w L c u = some (sFirst v c) := by
  have h8 := hV.n8
  rw [f_X9_firstIn_e]
  refine pu_find (fun n x => f_X9_firstIn_2 w L n c x u) (rN v) (Pin v c) some (fun n k hk => ?_) (fun n => ?_) 5000 (by omega)
  · show f_X9_firstIn_2 w L (n + 1) c (nI k) u = _
    rw [f_X9_firstIn_2_s, hR.s8, hV.n, if_neg (nI_ge hk (by omega)), if_pos (pu_in (by omega) (by decide))]
    simp only [z_let, nI_1, nI_clamp (show k < 2 ^ 31 by omega), hR.pl (show k < 8 by omega), Pin, decide_eq_true_eq]
  · show f_X9_firstIn_2 w L (n + 1) c (nI (rN v)) u = _
    rw [f_X9_firstIn_2_s, hR.s8, hV.n, if_pos (nI_le (Nat.le_refl _) (by omega))]
theorem pr_firstIn {u : zU} (hV : IV (u 1)) (c : Int32) : f_X11_firstIn c u = some (sFirst (u 1) c) := by
  have h8 := hV.n8
  rw [f_X11_firstIn_e]
  refine pu_find (fun n x => f_X11_firstIn_2 n c x u) (rN (u 1)) (Pin (u 1) c) some (fun n k hk => ?_) (fun n => ?_) 5000 (by omega)
  · show f_X11_firstIn_2 (n + 1) c (nI k) u = _
    rw [f_X11_firstIn_2_s, hV.n, if_neg (nI_ge hk (by omega)), pr_of0 (by omega)]
    simp only [Option.bind_some, nI_1, Pin, decide_eq_true_eq]
  · show f_X11_firstIn_2 (n + 1) c (nI (rN (u 1))) u = _
    rw [f_X11_firstIn_2_s, hV.n, if_pos (nI_le (Nat.le_refl _) (by omega))]
theorem sFirst_spec (v : Nat → Int32) (c : Int32) : (sFirst v c = -1 ∧ ∀ r, r < rN v → v (25 + 4 * r) ≠ c) ∨ ∃ x, x < rN v ∧ sFirst v c = nI x ∧ v (25 + 4 * x) = c ∧ ∀ r, r < x → v (25 + 4 * r) ≠ c := by
  rcases zfi_spec (Pin v c) (rN v) 0 with ⟨h1, h2⟩ | ⟨j, _, h2, h3, h4, h5⟩
  · exact Or.inl ⟨h1, fun r hr => of_decide_eq_false (h2 r (by omega) (by omega))⟩
  · exact Or.inr ⟨j, by omega, h3, of_decide_eq_true h4, fun r hr => of_decide_eq_false (h5 r (by omega) hr)⟩
theorem pr_governor {u : zU} (hV : IV (u 1)) : f_X11_governorNow u = some (sFirst (u 1) (u 1 4)) := by
  rw [f_X11_governorNow_e, pr_firstIn hV]; rfl
/-- whether one can get into a cradle -/
def sOpen (v : Nat → Int32) (c : Nat) : Bool := !decide (v (17 + c) ≤ 0) && decide (bcnt (Pin v (nI c)) (rN v) < 2)
theorem pu_and7 : ∀ c, c < 8 → nI c &&& 7 = nI c := by decide +kernel
theorem pc_isOpen {u : zU} {w : Nat} {v : Nat → Int32} (hR : RW u w v) (hV : IV v) (L : Nat → Nat) {c : Nat} (hc : c < 8) : f_X9_isOpen w L (nI c) u = some (sOpen v c) := by
  have h8 := hV.n8
  have hb := bcnt_le (Pin v (nI c)) (rN v)
  rw [f_X9_isOpen_e, pu_and7 c hc, if_pos (pu_in hc (by decide)), pc_ridersIn hR hV]
  simp only [z_let, Option.bind_some, nI_clamp (show c < 2 ^ 31 by omega), hR.bo hc, pu_bitD h8, sOpen, pu_lit 2, nI_leI (show 2 < 2 ^ 31 by decide) (show bcnt (Pin v (nI c)) (rN v) < 2 ^ 31 by omega)]
  by_cases h : v (17 + c) ≤ 0
  · simp [h]
  · by_cases h2 : 2 ≤ bcnt (Pin v (nI c)) (rN v)
    · simp [h, h2]
    · have h3 : bcnt (Pin v (nI c)) (rN v) < 2 := by omega
      simp [h, h2, h3]
theorem pr_hasRoom1 {u : zU} {c : Nat} (hc : c < 8) : f_X11_hasRoom (nI c) u = (z_let (u 1 (17 + c)) (fun z1 => if z1 ≤ 0 then (some false) else ((f_X11_those (nI c) u).bind (fun r2 => (f_X11_bits r2 u).bind (fun r3 => if (2 : Int32) ≤ r3 then (some false) else (some true)))))) := by
  have e1 : ((17 : Int32) + nI c).toNatClampNeg = 17 + c := by rw [pu_l17]; exact nI_clamp (by omega)
  have e2 : z_in ((17 : Int32) + nI c) 705 = true := by rw [pu_l17]; exact pu_in (by omega) (by decide)
  rw [f_X11_hasRoom_e, if_pos e2, e1]
theorem pr_hasRoom2 {u : zU} (hV : IV (u 1)) (c : Nat) : (f_X11_those (nI c) u).bind (fun r2 => (f_X11_bits r2 u).bind (fun r3 => if (2 : Int32) ≤ r3 then (some false) else (some true))) = if (2 : Int32) ≤ nI (bcnt (Pin (u 1) (nI c)) (rN (u 1))) then (some false) else (some true) := by
  rw [pr_those hV, Option.bind_some, pu_bits hV.n8, Option.bind_some]
theorem pr_hasRoom3 (y : Int32) (z : Nat) (hz : z < 2 ^ 31) : (if y ≤ 0 then some false else if (2 : Int32) ≤ nI z then some false else some true) = some (!decide (y ≤ 0) && decide (z < 2)) := by
  have hq : ((2 : Int32) ≤ nI z) ↔ 2 ≤ z := nI_leI (a := 2) (by decide) hz
  by_cases h : y ≤ 0
  · rw [if_pos h, decide_eq_true h]; rfl
  · rw [if_neg h, decide_eq_false h]
    by_cases h2 : 2 ≤ z
    · rw [if_pos (hq.mpr h2), decide_eq_false (by omega)]; rfl
    · rw [if_neg (fun q => h2 (hq.mp q)), decide_eq_true (by omega)]; rfl
theorem pr_hasRoom {u : zU} (hV : IV (u 1)) {c : Nat} (hc : c < 8) : f_X11_hasRoom (nI c) u = some (sOpen (u 1) c) := by
  have h8 := hV.n8
  have hb := bcnt_le (Pin (u 1) (nI c)) (rN (u 1))
  rw [pr_hasRoom1 hc]
  show (if u 1 (17 + c) ≤ 0 then some false else _) = _
  rw [pr_hasRoom2 hV]
  exact pr_hasRoom3 _ _ (by omega)
