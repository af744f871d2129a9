/-! PURE, 15: calls that tell, 1 -/
theorem RW.a7 {u : zU} {v : Nat → Int32} (h : RW u 6 v) {i : Nat} (hi : i < 8) : u 7 i = v (25 + 4 * i) := h.pl hi
theorem RW.a8 {u : zU} {v : Nat → Int32} (h : RW u 6 v) {i : Nat} (hi : i < 8) : u 8 i = v (26 + 4 * i) := h.we hi
theorem RW.a9 {u : zU} {v : Nat → Int32} (h : RW u 6 v) {i : Nat} (hi : i < 8) : u 9 i = v (27 + 4 * i) := h.pu hi
theorem RW.a10 {u : zU} {v : Nat → Int32} (h : RW u 6 v) {i : Nat} (hi : i < 8) : u 10 i = v (28 + 4 * i) := h.si hi
theorem RW.a11 {u : zU} {v : Nat → Int32} (h : RW u 6 v) {i : Nat} (hi : i < 8) : u 11 i = v (57 + i) := h.ro hi
theorem RW.a12 {u : zU} {v : Nat → Int32} (h : RW u 6 v) {i : Nat} (hi : i < 8) : u 12 i = v (17 + i) := h.bo hi
theorem RW.a13 {u : zU} {v : Nat → Int32} (h : RW u 6 v) {i : Nat} (hi : i < 4) : u 13 i = v (13 + i) := h.te hi
theorem zl {α β : Type} (x : α) (f : α → β) : z_let x f = f x := Eq.trans rfl rfl
theorem pu_ge8 {k : Nat} (h : k < 8) : ¬ (8 : Int32) ≤ nI k := nI_ge (b := 8) h (by decide)
theorem pu_le8 : (8 : Int32) ≤ nI 8 := by decide
theorem s_fault {q : zq} {u r : zU} (h : RR q u r) : f_X11_fault r = (f_X10_fault q u, z_up r 0 0 0) ∧ RR q u (z_up r 0 0 0) := by
  refine ⟨?_, h.t 0⟩
  obtain ⟨T, T', h⟩ := h
  rw [f_X11_fault_e, f_X10_fault_e, h.2.2.2.2.1]
  rfl
theorem s_governor {q : zq} {u r : zU} (h : RR q u r) : ∃ x, f_X10_governor q u = some x ∧ f_X11_governor r = some (x, z_up r 0 0 0) ∧ RR q u (z_up r 0 0 0) := by
  refine ⟨sFirst (r 1) (r 1 4), ?_, ?_, h.t 0⟩
  · rw [f_X10_governor_e, h.rw.s14, pc_firstIn h.rw h.iv]; rfl
  · rw [f_X11_governor_e]
    simp only [z_let]
    rw [pr_governor (show IV ((z_up r 0 0 0) 1) from h.iv)]
    rfl
theorem s_farther {q : zq} {u r : zU} (h : RR q u r) : ∃ x u' r', f_X10_farther q u = some (x, u') ∧ f_X11_farther r = some (x, r') ∧ RR q u' r' := by
  have h0 := h.t 0
  obtain ⟨T, T', hb⟩ := h0
  obtain ⟨⟨⟨a1, a2, a3, a4⟩, a5, a6, a7, a8⟩, -⟩ := hb.1, hb.2
  obtain ⟨u', e1, R, C, F, -⟩ := pc_goesFarther a1 a2 a3 (a7.ap (i := 0) (by decide))
  obtain ⟨r', e2, k1, f2, f3, f4, f5, f00, f03, f06, f08, f012⟩ := pr_fartherNow a2 a4
  refine ⟨sFar (r 1) T, u', r', ?_, ?_, T, T', hb.tmp (w := 6) (Or.inl rfl) F R C k1 f2 f4 f5 f03 f06 f08 f012⟩
  · rw [f_X10_farther_e, e1]; rfl
  · rw [f_X11_farther_e]
    simp only [z_let]
    rw [e2]; rfl
theorem s_room {q : zq} {u r : zU} (h : RR q u r) : ∃ x, f_X10_room q u = some x ∧ f_X11_room r = some (x, z_up r 0 0 0) ∧ RR q u (z_up r 0 0 0) := by
  refine ⟨nI (bset (sOpen (r 1)) 8), ?_, ?_, h.t 0⟩
  · rw [f_X10_room_e]
    refine pu_bset (fun n s x => f_X10_room_4 q n s x u) 8 (sOpen (r 1)) some (by decide) (fun n k s hk => ?_) (fun n s => ?_) 5000 (by decide)
    · show f_X10_room_4 q (n + 1) s (nI k) u = _
      rw [f_X10_room_4_s, if_neg (pu_ge8 hk), pc_isOpen h.rw h.iv (q 0) hk, Option.bind_some, nI_1]
      by_cases ho : sOpen (r 1) k = true
      · rw [if_pos ho, if_pos ho]; rfl
      · rw [if_neg ho, if_neg ho]
    · show f_X10_room_4 q (n + 1) s (nI 8) u = _
      rw [f_X10_room_4_s, if_pos pu_le8]
  · rw [f_X11_room_e, zl]
    refine pu_bset (fun n s x => f_X11_room_9 n s x (z_up r 0 0 0)) 8 (sOpen (r 1)) (fun s => some (s, z_up r 0 0 0)) (by decide) (fun n k s hk => ?_) (fun n s => ?_) 5000 (by decide)
    · show f_X11_room_9 (n + 1) s (nI k) (z_up r 0 0 0) = _
      rw [f_X11_room_9_s, if_neg (pu_ge8 hk), pr_hasRoom (show IV ((z_up r 0 0 0) 1) from h.iv) hk, Option.bind_some, nI_1, z_01]
      by_cases ho : sOpen (r 1) k = true
      · rw [if_pos ho, if_pos ho]; rfl
      · rw [if_neg ho, if_neg ho, Int32.or_zero]; rfl
    · show f_X11_room_9 (n + 1) s (nI 8) (z_up r 0 0 0) = _
      rw [f_X11_room_9_s, if_pos pu_le8]
theorem p_weakest {q : zq} {u r : zU} (hR : RW u 6 (r 1)) : ∀ d k fuel a, k + d = 8 → a < 8 → d < fuel → ∃ x, f_X10_weakest_4 q fuel (nI a) (nI k) u = some x ∧ f_X11_weakest_9 fuel (nI a) (nI k) r = some (x, r) := by
  intro d
  induction d with
  | zero =>
    intro k fuel a hk ha hfu
    obtain ⟨n, rfl⟩ : ∃ n, fuel = n + 1 := ⟨fuel - 1, by omega⟩
    obtain rfl : k = 8 := by omega
    rw [f_X10_weakest_4_s, f_X11_weakest_9_s, if_pos pu_le8, if_pos pu_le8]
    exact ⟨_, rfl, rfl⟩
  | succ d ih =>
    intro k fuel a hk ha hfu
    obtain ⟨n, rfl⟩ : ∃ n, fuel = n + 1 := ⟨fuel - 1, by omega⟩
    have hk8 : k < 8 := by omega
    rw [f_X10_weakest_4_s, f_X11_weakest_9_s, if_neg (pu_ge8 hk8), if_neg (pu_ge8 hk8), if_pos (pu_in hk8 (by decide)), pu_l17, pu_l17, if_pos (pu_in (show 17 + k < 705 by omega) (by decide))]
    simp only [z_let]
    rw [if_pos (pu_in (show 17 + a < 705 by omega) (by decide)), if_pos (pu_in ha (by decide)), nI_clamp (show k < 2 ^ 31 by omega), nI_clamp (show a < 2 ^ 31 by omega), nI_clamp (show 17 + k < 2 ^ 31 by omega), nI_clamp (show 17 + a < 2 ^ 31 by omega), hR.a12 hk8, hR.a12 ha, nI_1]
    by_cases hc : r 1 (17 + a) ≤ r 1 (17 + k)
    · rw [if_pos hc, if_pos hc]; exact ih (k + 1) n a (by omega) ha (by omega)
    · rw [if_neg hc, if_neg hc]; exact ih (k + 1) n k (by omega) hk8 (by omega)
theorem s_weakest {q : zq} {u r : zU} (h : RR q u r) : ∃ x, f_X10_weakest q u = some x ∧ f_X11_weakest r = some (x, z_up r 0 0 0) ∧ RR q u (z_up r 0 0 0) := by
  have h0 := h.t 0
  obtain ⟨x, e1, e2⟩ := p_weakest (q := q) h0.rw 7 1 5000 0 rfl (by decide) (by decide)
  refine ⟨x, ?_, ?_, h0⟩
  · rw [f_X10_weakest_e]; exact e1
  · rw [f_X11_weakest_e, zl]; exact e2
/-- the cradles that the chest affords -/
def Paf (v : Nat → Int32) : Nat → Bool := fun c => !decide (v 6 < nI (10 * pls v c))
theorem pr_affords9 {u : zU} (hV : IV (u 1)) : f_X11_affords_9 5000 0 0 u = some (nI (bset (Paf (u 1)) 8), u) := by
  refine pu_bset (fun n s x => f_X11_affords_9 n s x u) 8 (Paf (u 1)) (fun s => some (s, u)) (by decide) (fun n k s hk => ?_) (fun n s => ?_) 5000 (by decide)
  · show f_X11_affords_9 (n + 1) s (nI k) u = _
    rw [f_X11_affords_9_s, if_neg (pu_ge8 hk), pr_cost hV hk, nI_1]
    simp only [z_let]
    unfold Paf
    by_cases hc : u 1 6 < nI (10 * pls (u 1) k)
    · rw [if_pos hc, Int32.or_zero, decide_eq_true hc]; rfl
    · rw [if_neg hc, decide_eq_false hc]; rfl
  · show f_X11_affords_9 (n + 1) s (nI 8) u = _
    rw [f_X11_affords_9_s, if_pos pu_le8]
theorem pr_affords {r : zU} (hV : IV (r 1)) : f_X11_affords r = some (nI (bset (Paf (r 1)) 8), z_up r 0 0 0) := by
  rw [f_X11_affords_e, zl]
  exact pr_affords9 (u := z_up r 0 0 0) hV
theorem s_affords {q : zq} {u r : zU} (h : RR q u r) : ∃ x, f_X10_affords q u = some x ∧ f_X11_affords r = some (x, z_up r 0 0 0) ∧ RR q u (z_up r 0 0 0) := by
  refine ⟨_, ?_, pr_affords h.iv, h.t 0⟩
  rw [f_X10_affords_e]
  refine pu_bset (fun n s x => f_X10_affords_4 q n s x u) 8 (Paf (r 1)) some (by decide) (fun n k s hk => ?_) (fun n s => ?_) 5000 (by decide)
  · show f_X10_affords_4 q (n + 1) s (nI k) u = _
    rw [f_X10_affords_4_s, if_neg (pu_ge8 hk), pc_cost h.rw h.iv (q 0) hk, nI_1, h.rw.s11]
    simp only [z_let]
    unfold Paf
    by_cases hc : r 1 6 < nI (10 * pls (r 1) k)
    · rw [if_pos hc, decide_eq_true hc]; rfl
    · rw [if_neg hc, decide_eq_false hc]; rfl
  · show f_X10_affords_4 q (n + 1) s (nI 8) u = _
    rw [f_X10_affords_4_s, if_pos pu_le8]
/-! the richest of a set -/
def sRi1 (v : Nat → Int32) (P : Nat → Bool) (r : Nat) (s : Int32) : Int32 := if P r = true then (if s = -1 then nI r else if v (27 + 4 * r) ≤ v (27 + 4 * s.toNatClampNeg) then s else nI r) else s
def sRi (v : Nat → Int32) (P : Nat → Bool) (n : Nat) : Int32 := zfo (sRi1 v P) n (-1)
theorem sRi_c {v : Nat → Int32} (P : Nat → Bool) : ∀ n, sRi v P n = -1 ∨ ∃ f, f < n ∧ sRi v P n = nI f
  | 0 => Or.inl rfl
  | n + 1 => by
    show sRi1 v P n (sRi v P n) = -1 ∨ ∃ f, f < n + 1 ∧ sRi1 v P n (sRi v P n) = nI f
    have ih : sRi v P n = -1 ∨ ∃ f, f < n + 1 ∧ sRi v P n = nI f := by
      rcases sRi_c (v := v) P n with h | ⟨f, h1, h2⟩
      · exact Or.inl h
      · exact Or.inr ⟨f, by omega, h2⟩
    unfold sRi1
    split
    · split
      · exact Or.inr ⟨n, by omega, rfl⟩
      · split
        · exact ih
        · exact Or.inr ⟨n, by omega, rfl⟩
    · exact ih
theorem sRi_ext {v : Nat → Int32} {P P' : Nat → Bool} {n : Nat} (h : ∀ r, r < n → P r = P' r) : sRi v P n = sRi v P' n := zfo_ext n (fun k hk => by unfold sRi1; rw [h k hk])
theorem isOfc : ∀ m, m < 256 → ∀ k, k < 8 → ((((nI m >>> (nI k &&& 31)) &&& (1 : Int32)) = 1) ↔ m.testBit k = true) := fun m hm k hk => by
  have := isOf0 m hm k hk
  rw [← this]
  exact decide_eq_true_iff.symm
/-- the class's memory of the best so far -/
def mst (v : Nat → Int32) (s : Int32) : Int32 := if s = -1 then -1 else v (27 + 4 * s.toNatClampNeg)
theorem pc_richestOf {q : zq} {u : zU} {v : Nat → Int32} (hR : RW u 6 v) (hV : IV v) {m : Nat} (hm : m < 256) : f_X10_richestOf q (nI m) u = some (sRi v (fun r => m.testBit r) (rN v)) := by
  have h8 := hV.n8
  have hl : ∀ d k fuel, k + d = rN v → d < fuel → f_X10_richestOf_7 q fuel (nI m) (sRi v (fun r => m.testBit r) k) (mst v (sRi v (fun r => m.testBit r) k)) (nI k) u = some (sRi v (fun r => m.testBit r) (rN v)) := by
    intro d
    induction d with
    | zero =>
      intro k fuel hk hfu
      obtain ⟨n, rfl⟩ : ∃ n, fuel = n + 1 := ⟨fuel - 1, by omega⟩
      obtain rfl : k = rN v := by omega
      rw [f_X10_richestOf_7_s, hR.s8, hV.n, if_pos (nI_le (Nat.le_refl _) (by omega))]
    | succ d ih =>
      intro k fuel hk hfu
      obtain ⟨n, rfl⟩ : ∃ n, fuel = n + 1 := ⟨fuel - 1, by omega⟩
      have hk8 : k < 8 := by omega
      have hs : sRi v (fun r => m.testBit r) (k + 1) = sRi1 v (fun r => m.testBit r) k (sRi v (fun r => m.testBit r) k) := rfl
      have ih2 := ih (k + 1) n (by omega) (by omega)
      rw [f_X10_richestOf_7_s, hR.s8, hV.n, if_neg (nI_ge (show k < rN v by omega) (by omega)), nI_1]
      have hp := sm_999.mp (hV.pu hk8)
      by_cases hb : m.testBit k = true
      · rw [if_pos ((isOfc m hm k hk8).mpr hb), if_pos (pu_in hk8 (by decide))]
        simp only [z_let]
        rw [if_pos (pu_in hk8 (by decide)), nI_clamp (show k < 2 ^ 31 by omega), hR.a9 hk8]
        rcases sRi_c (v := v) (fun r => m.testBit r) k with h1 | ⟨f, h1, h2⟩
        · have e1 : sRi v (fun r => m.testBit r) (k + 1) = nI k := by rw [hs, h1]; unfold sRi1; rw [if_pos hb, if_pos rfl]
          rw [e1] at ih2
          rw [h1, show mst v (-1) = -1 from if_pos rfl, if_neg (by lia)]
          rw [show mst v (nI k) = v (27 + 4 * k) by unfold mst; rw [if_neg (pu_m1 (by omega)), nI_clamp (by omega)]] at ih2
          exact ih2
        · have e0 : mst v (nI f) = v (27 + 4 * f) := by unfold mst; rw [if_neg (pu_m1 (by omega)), nI_clamp (by omega)]
          by_cases hc : v (27 + 4 * k) ≤ v (27 + 4 * f)
          · have e1 : sRi v (fun r => m.testBit r) (k + 1) = nI f := by rw [hs, h2]; unfold sRi1; rw [if_pos hb, if_neg (pu_m1 (by omega)), nI_clamp (by omega), if_pos hc]
            rw [e1] at ih2
            rw [h2, e0, if_pos hc, ← e0]
            exact ih2
          · have e1 : sRi v (fun r => m.testBit r) (k + 1) = nI k := by rw [hs, h2]; unfold sRi1; rw [if_pos hb, if_neg (pu_m1 (by omega)), nI_clamp (by omega), if_neg hc]
            rw [e1] at ih2
            rw [h2, e0, if_neg hc]
            rw [show mst v (nI k) = v (27 + 4 * k) by unfold mst; rw [if_neg (pu_m1 (by omega)), nI_clamp (by omega)]] at ih2
            exact ih2
      · rw [if_neg (fun e => hb ((isOfc m hm k hk8).mp e))]
        have e1 : sRi v (fun r => m.testBit r) (k + 1) = sRi v (fun r => m.testBit r) k := by rw [hs]; unfold sRi1; rw [if_neg hb]
        rw [e1] at ih2
        exact ih2
  rw [f_X10_richestOf_e]
  exact hl (rN v) 0 5000 (by omega) (by omega)
theorem pr_richest9 {u : zU} (hV : IV (u 1)) : f_X11_richest_9 5000 (-1) 0 u = some (sRi (u 1) (fun _ => true) (rN (u 1)), u) := by
  have h8 := hV.n8
  refine (pu_loopI (fun n s x => f_X11_richest_9 n s x u) (rN (u 1)) (sRi1 (u 1) (fun _ => true)) (fun s => some (s, u)) (fun k s => s = sRi (u 1) (fun _ => true) k) rfl (fun n k s hk hs => ⟨?_, ?_⟩) (fun n s _ => ?_) 5000 (by omega)).1
  · show f_X11_richest_9 (n + 1) s (nI k) u = _
    have hk8 : k < 8 := by omega
    rw [f_X11_richest_9_s, hV.n, if_neg (nI_ge hk (by omega)), nI_1]
    unfold sRi1
    rw [if_pos rfl]
    rcases sRi_c (v := u 1) (fun _ => true) k with h1 | ⟨f, h1, h2⟩
    · rw [hs, h1, if_pos rfl, if_pos rfl]
    · rw [hs, h2, if_neg (pu_m1 (by omega)), if_neg (pu_m1 (by omega)), pr_of2 hk8, Option.bind_some, pr_of2 (by omega), Option.bind_some, nI_clamp (by omega)]
      by_cases hc : u 1 (27 + 4 * k) ≤ u 1 (27 + 4 * f)
      · rw [if_pos hc, if_pos hc]
      · rw [if_neg hc, if_neg hc]
  · rw [hs]; rfl
  · show f_X11_richest_9 (n + 1) s (nI (rN (u 1))) u = _
    rw [f_X11_richest_9_s, hV.n, if_pos (nI_le (Nat.le_refl _) (by omega))]
theorem all0 : ∀ n, n ≤ 8 → ((1 : Int32) <<< (nI n &&& 31)) - 1 = nI (2 ^ n - 1) ∧ 2 ^ n - 1 < 256 ∧ ∀ k, k < n → (2 ^ n - 1).testBit k = true := by
  intro n hn
  have h1 : ∀ n, n < 9 → ((1 : Int32) <<< (nI n &&& 31)) - 1 = nI (2 ^ n - 1) ∧ 2 ^ n - 1 < 256 := by decide +kernel
  refine ⟨(h1 n (by omega)).1, (h1 n (by omega)).2, fun k hk => ?_⟩
  rw [Nat.testBit_two_pow_sub_one]
  exact decide_eq_true hk
theorem s_richest {q : zq} {u r : zU} (h : RR q u r) : ∃ x, f_X10_richest q u = some x ∧ f_X11_richest r = some (x, z_up r 0 0 0) ∧ RR q u (z_up r 0 0 0) := by
  have hV := h.iv
  obtain ⟨a1, a2, a3⟩ := all0 (rN (r 1)) hV.n8
  refine ⟨sRi (r 1) (fun _ => true) (rN (r 1)), ?_, ?_, h.t 0⟩
  · rw [f_X10_richest_e, h.rw.s8, hV.n, a1, pc_richestOf h.rw hV a2, Option.bind_some, sRi_ext (P' := fun _ => true) (fun k hk => a3 k hk)]
  · rw [f_X11_richest_e, zl]
    exact pr_richest9 (u := z_up r 0 0 0) hV
