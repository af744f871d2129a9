/-! PURE, 32: seat -/
theorem pr_leanB2 {u : zU} {N t : Nat} (hn : u 1 3 = nI N) (h8 : N ≤ 8) (ht : u 1 4 = nI t) (ht8 : t < 8) (hpl : ∀ k, k < N → u 1 (25 + 4 * k) = -1 ∨ ∃ c, c < 8 ∧ u 1 (25 + 4 * k) = nI c) {m : Nat} (hm : m < 256) : f_X11_leanBy (nI m) u = some (sLe (u 1) (fun k => m.testBit k) N) := by
  have hpc : ∀ c, c < 8 → f_X11_placesOf (nI c) u = nI (pls (u 1) c) := fun c hc => by
    have htP : tP (u 1) = t := by unfold tP; rw [ht, nI_clamp (by omega)]
    rw [f_X11_placesOf_e, ht]; unfold pls; rw [htP]; exact (pls0 c hc _ ht8).2
  rw [f_X11_leanBy_e]
  refine pu_loop (fun n s x => f_X11_leanBy_4 n (nI m) s x u) N _ some (fun n k s hk => ?_) (fun n s => ?_) 5000 (by omega)
  · show f_X11_leanBy_4 (n + 1) (nI m) s (nI k) u = _
    have hk8 : k < 8 := by omega
    rw [f_X11_leanBy_4_s, hn, if_neg (nI_ge hk (by omega)), pu_isOf hm hk8, zl, nI_1]
    by_cases hb : m.testBit k = true
    · rw [if_pos hb, if_pos hb, pr_waits hk8, Option.bind_some]
      rcases hpl k hk with hw | ⟨c, hc, hw⟩
      · rw [decide_eq_true hw, if_pos rfl, if_pos hw]
      · have hne : u 1 (25 + 4 * k) ≠ -1 := by rw [hw]; exact pu_m1 (by omega)
        rw [decide_eq_false hne, if_neg Bool.false_ne_true, if_neg hne, pr_of0 hk8, Option.bind_some, hw, hpc c hc, zl, pr_isIn, zl, nI_clamp (by omega)]
        obtain ⟨l1, l2, l3⟩ := lev1 _ (pls_lt (u 1) c)
        by_cases hi : (decide ((1 : Int32) ≤ nI (pls (u 1) c)) && decide (nI (pls (u 1) c) ≤ 3)) = true
        · rw [if_pos hi, pr_of1 hk8, Option.bind_some, zl, l1 hi, Int32.one_mul]
        · have hi2 : (decide ((1 : Int32) ≤ nI (pls (u 1) c)) && decide (nI (pls (u 1) c) ≤ 3)) = false := by revert hi; cases (decide ((1 : Int32) ≤ nI (pls (u 1) c)) && decide (nI (pls (u 1) c) ≤ 3)) <;> simp
          rw [if_neg hi]
          by_cases h4 : nI (pls (u 1) c) ≤ 4
          · rw [if_pos h4, zl, l2 hi2 h4, Int32.zero_mul]
          · rw [if_neg h4, pr_of1 hk8, Option.bind_some, zl, l3 hi2 h4, Int32.neg_mul, Int32.one_mul]
    · rw [if_neg hb, if_neg hb]
  · show f_X11_leanBy_4 (n + 1) (nI m) s (nI N) u = _
    rw [f_X11_leanBy_4_s, hn, if_pos (nI_le (Nat.le_refl _) (by omega))]
def sLe1 (v : Nat → Int32) (P : Nat → Bool) (k : Nat) (s : Int32) : Int32 := if P k = true then (if v (25 + 4 * k) = -1 then s else s + lev (pls v (v (25 + 4 * k)).toNatClampNeg) * v (26 + 4 * k)) else s
theorem sLe_s (v : Nat → Int32) (P : Nat → Bool) (n : Nat) : sLe v P (n + 1) = sLe1 v P n (sLe v P n) := rfl
theorem sLe1_c {v : Nat → Int32} {P : Nat → Bool} (k : Nat) (s X : Int32) : sLe1 v P k (s + X) = sLe1 v P k s + X := by
  unfold sLe1
  split
  · split
    · rfl
    · rw [Int32.add_assoc, Int32.add_comm X, ← Int32.add_assoc]
  · rfl
/-- with x put into c -/
theorem sLe_put {v : Nat → Int32} {x c : Nat} (hc : c < 8) (P : Nat → Bool) (hP : ∀ k, P k = !decide (k = x)) : ∀ N, sLe (upd v (25 + 4 * x) (nI c)) (fun _ => true) N = sLe v P N + (if x < N then lev (pls v c) * v (26 + 4 * x) else 0)
  | 0 => by rw [if_neg (by omega), Int32.add_zero]; rfl
  | N + 1 => by
    have hpl : ∀ d, pls (upd v (25 + 4 * x) (nI c)) d = pls v d := fun d => by unfold pls tP; rw [upd_ne (by omega)]
    rw [sLe_s, sLe_s, sLe_put hc P hP N]
    by_cases e : N = x
    · subst e
      rw [if_neg (by omega), if_pos (by omega), Int32.add_zero]
      unfold sLe1
      rw [hP N, decide_eq_true rfl, if_pos rfl, if_neg (show ¬ (!true) = true by decide), upd_eq, if_neg (pu_m1 (by omega)), nI_clamp (by omega), hpl, upd_ne (by omega)]
    · have hs : ∀ s, sLe1 (upd v (25 + 4 * x) (nI c)) (fun _ => true) N s = sLe1 v P N s := fun s => by
        unfold sLe1
        rw [hP N, decide_eq_false e, if_pos rfl, if_pos (show (!false) = true by decide), upd_ne (show 25 + 4 * N ≠ 25 + 4 * x by omega), upd_ne (show 26 + 4 * N ≠ 25 + 4 * x by omega), hpl]
      rw [hs, sLe1_c]
      congr 1
      by_cases h : x < N
      · rw [if_pos h, if_pos (by omega)]
      · rw [if_neg h, if_neg (by omega)]
theorem in3 (a b c : Int32) : a - b + c = a + c - b := by rw [Int32.sub_eq_add_neg, Int32.sub_eq_add_neg, Int32.add_assoc, Int32.add_assoc, Int32.add_comm c]
theorem in4 (a b c : Int32) : a - b - c = a - (b + c) := by rw [Int32.sub_eq_add_neg, Int32.sub_eq_add_neg, Int32.sub_eq_add_neg, Int32.neg_add, Int32.sub_eq_add_neg, Int32.add_assoc]
theorem sLe_lim {v : Nat → Int32} (h : ∀ k, k < 8 → sm (v (26 + 4 * k)) 9) (P : Nat → Bool) : ∀ N, N ≤ 8 → ∃ a b, a ≤ 9 * N ∧ b ≤ 9 * N ∧ sLe v P N = nI a - nI b
  | 0, _ => ⟨0, 0, by omega, by omega, rfl⟩
  | N + 1, hN => by
    obtain ⟨a, b, ha, hb, e⟩ := sLe_lim h P N (by omega)
    obtain ⟨m, hm, em⟩ := h N (by omega)
    rw [sLe_s, e]
    unfold sLe1
    split
    · split
      · exact ⟨a, b, by omega, by omega, rfl⟩
      · rw [em]
        unfold lev
        split
        · exact ⟨a, b, by omega, by omega, by rw [Int32.zero_mul, Int32.add_zero]⟩
        · split
          · exact ⟨a + m, b, by omega, by omega, by rw [Int32.one_mul, in3, nI_add]⟩
          · exact ⟨a, b + m, by omega, by omega, by rw [Int32.neg_mul, Int32.one_mul, ← Int32.sub_eq_add_neg, in4, nI_add]⟩
    · exact ⟨a, b, by omega, by omega, rfl⟩
theorem ab0 (x : Int32) : z_abs x = if 0 ≤ x then x else -x := by
  show (if 0 ≤ x then x else 0 - x) = _
  rw [Int32.zero_sub]
theorem ab1 : ∀ a, a ≤ 72 → ∀ b, b ≤ 72 → (if 0 ≤ nI a - nI b then nI a - nI b else -(nI a - nI b)) < (2000000000 : Int32) := by
  intro a ha b hb
  have h1 : (0 : Int32) ≤ nI a := nI_le (Nat.zero_le _) (by omega)
  have h2 : nI a ≤ (72 : Int32) := nI_le ha (by decide)
  have h3 : (0 : Int32) ≤ nI b := nI_le (Nat.zero_le _) (by omega)
  have h4 : nI b ≤ (72 : Int32) := nI_le hb (by decide)
  generalize nI a = x at *
  generalize nI b = y at *
  split <;> lia
theorem tb8 : ∀ p, p < 8 → (1 : Int32) <<< (nI p &&& 31) = nI (2 ^ p) ∧ 2 ^ p < 256 ∧ ∀ j, j < 8 → (2 ^ p).testBit j = decide (j = p) := by decide +kernel
theorem put_back (r : zU) (i : Nat) (y : Int32) : zst (zst r 1 (upd (r 1) i y)) 1 (upd (upd (r 1) i y) i (r 1 i)) = r := by
  have h : upd (upd (r 1) i y) i (r 1 i) = r 1 := by
    funext j
    by_cases e : j = i
    · rw [e, upd_eq]
    · rw [upd_ne e, upd_ne e]
  rw [h]
  funext k
  by_cases e : k = 1
  · subst e; exact if_pos rfl
  · rw [zst_r e, zst_r e]
theorem zst_1 (r : zU) (f : Nat → Int32) : zst r 1 f 1 = f := if_pos rfl
theorem p_seat {q : zq} {u r : zU} (hR : RW u 6 (r 1)) (hV : IV (r 1)) {x : Nat} (hx : x < rN (r 1)) {o : Int32} (ho : o = sLe (r 1) (fun k => !decide (k = x)) (rN (r 1))) : ∀ d c fuel b ca ra, c + d = 8 → d < fuel → ((b = -1 ∧ ra = 2000000000) ∨ (b ≠ -1 ∧ ca = ra)) → ∃ y, f_X10_seat_21 q fuel (nI x) o b ca (nI c) u = some (.inr y, q, u) ∧ f_X11_seat_43 fuel (nI x) (r 1 (25 + 4 * x)) b ra (nI c) r = some (y, r) := by
  have h8 := hV.n8
  have hx8 : x < 8 := by omega
  have h255 : ∀ k, k < 8 → Nat.testBit 255 k = true := by decide
  intro d
  induction d with
  | zero =>
    intro c fuel b ca ra hc hf hI
    obtain ⟨m, rfl⟩ : ∃ m, fuel = m + 1 := ⟨fuel - 1, by omega⟩
    obtain rfl : c = 8 := by omega
    rw [f_X10_seat_21_s, f_X11_seat_43_s, if_pos pu_le8, if_pos pu_le8]
    exact ⟨_, rfl, rfl⟩
  | succ d ih =>
    intro c fuel b ca ra hc hf hI
    obtain ⟨m, rfl⟩ : ∃ m, fuel = m + 1 := ⟨fuel - 1, by omega⟩
    have hc8 : c < 8 := by omega
    have hrow : ∀ j, j ≠ 25 + 4 * x → upd (r 1) (25 + 4 * x) (nI c) j = r 1 j := fun j hj => upd_ne hj
    have hsL : sLe (upd (r 1) (25 + 4 * x) (nI c)) (fun k => Nat.testBit 255 k) (rN (r 1)) = o + lev (pls (r 1) c) * r 1 (26 + 4 * x) := by
      rw [sLe_ext (P' := fun _ => true) (fun k hk => h255 k (by omega)), sLe_put hc8 (fun k => !decide (k = x)) (fun _ => rfl), if_pos hx, ho]
    have hlim : (if 0 ≤ o + lev (pls (r 1) c) * r 1 (26 + 4 * x) then o + lev (pls (r 1) c) * r 1 (26 + 4 * x) else -(o + lev (pls (r 1) c) * r 1 (26 + 4 * x))) < (2000000000 : Int32) := by
      rw [← hsL]
      obtain ⟨a, b2, ha, hb2, e⟩ := sLe_lim (v := upd (r 1) (25 + 4 * x) (nI c)) (fun k hk => by rw [upd_ne (by omega)]; exact hV.we hk) (fun k => Nat.testBit 255 k) (rN (r 1)) h8
      rw [e]
      exact ab1 a (by omega) b2 (by omega)
    have hL : f_X11_leanBy 255 (zst r 1 (upd (r 1) (25 + 4 * x) (nI c))) = some (o + lev (pls (r 1) c) * r 1 (26 + 4 * x)) := by
      rw [← hsL, show (255 : Int32) = nI 255 from rfl]
      refine pr_leanB2 (u := zst r 1 (upd (r 1) (25 + 4 * x) (nI c))) (t := tP (r 1)) ?_ h8 ?_ hV.t8 ?_ (by decide)
      · rw [zst_1, hrow 3 (by omega), hV.n]
      · rw [zst_1, hrow 4 (by omega), hV.t]
      · intro k hk
        rw [zst_1]
        by_cases e : k = x
        · subst e; exact Or.inr ⟨c, hc8, upd_eq⟩
        · rw [hrow _ (by omega)]; exact hV.pl hk
    have hput : f_X11_put (nI x) 0 (nI c) r = some (zst r 1 (upd (r 1) (25 + 4 * x) (nI c))) := pr_put0 _ hx8
    have hbk : f_X11_put (nI x) 0 (r 1 (25 + 4 * x)) (zst r 1 (upd (r 1) (25 + 4 * x) (nI c))) = some r := by
      rw [pr_put0 _ hx8, zst_1, put_back]
    rw [f_X10_seat_21_s, f_X11_seat_43_s, if_neg (pu_ge8 hc8), if_neg (pu_ge8 hc8), pc_lever hR hV (q 0) hc8, zl, if_pos (pu_in hx8 (by decide)), zl, zl, if_pos (pu_in hx8 (by decide)), zl, nI_clamp (by omega), hR.a8 hx8, hR.a7 hx8, nI_1, ab0, pc_isOpen hR hV (q 0) hc8, Option.bind_some, pr_hasRoom hV hc8, Option.bind_some, hput, Option.bind_some, hL, Option.bind_some, hbk, Option.bind_some, zl]
    have ih2 := fun b ca ra => ih (c + 1) m b ca ra (by omega) (by omega)
    generalize o + lev (pls (r 1) c) * r 1 (26 + 4 * x) = z at hlim ⊢
    have hnext : ∃ y, (if b = -1 then (f_X10_seat_21 q m (nI x) o (nI c) (if 0 ≤ z then z else -z) (nI (c + 1)) u) else (if ca ≤ (if 0 ≤ z then z else -z) then f_X10_seat_21 q m (nI x) o b ca (nI (c + 1)) u else f_X10_seat_21 q m (nI x) o (nI c) (if 0 ≤ z then z else -z) (nI (c + 1)) u)) = some (.inr y, q, u) ∧ (if 0 ≤ z then (if z < ra then f_X11_seat_43 m (nI x) (r 1 (25 + 4 * x)) (nI c) z (nI (c + 1)) r else f_X11_seat_43 m (nI x) (r 1 (25 + 4 * x)) b ra (nI (c + 1)) r) else (if -z < ra then f_X11_seat_43 m (nI x) (r 1 (25 + 4 * x)) (nI c) (-z) (nI (c + 1)) r else f_X11_seat_43 m (nI x) (r 1 (25 + 4 * x)) b ra (nI (c + 1)) r)) = some (y, r) := by
      have hr : ∀ A : Int32, A = (if 0 ≤ z then z else -z) → (if 0 ≤ z then (if z < ra then f_X11_seat_43 m (nI x) (r 1 (25 + 4 * x)) (nI c) z (nI (c + 1)) r else f_X11_seat_43 m (nI x) (r 1 (25 + 4 * x)) b ra (nI (c + 1)) r) else (if -z < ra then f_X11_seat_43 m (nI x) (r 1 (25 + 4 * x)) (nI c) (-z) (nI (c + 1)) r else f_X11_seat_43 m (nI x) (r 1 (25 + 4 * x)) b ra (nI (c + 1)) r)) = if A < ra then f_X11_seat_43 m (nI x) (r 1 (25 + 4 * x)) (nI c) A (nI (c + 1)) r else f_X11_seat_43 m (nI x) (r 1 (25 + 4 * x)) b ra (nI (c + 1)) r := by
        intro A hA
        by_cases h0 : 0 ≤ z
        · rw [if_pos h0] at hA ⊢; rw [hA]
        · rw [if_neg h0] at hA ⊢; rw [hA]
      rw [hr _ rfl]
      generalize (if 0 ≤ z then z else -z) = A at hlim ⊢
      rcases hI with ⟨e1, e2⟩ | ⟨e1, e2⟩
      · rw [if_pos e1, e2, if_pos hlim]
        exact ih2 (nI c) A A (Or.inr ⟨pu_m1 (by omega), rfl⟩)
      · rw [if_neg e1, e2]
        by_cases h : ra ≤ A
        · rw [if_pos h, if_neg (Int32.not_lt.mpr h)]
          exact ih2 b ra ra (Or.inr ⟨e1, rfl⟩)
        · rw [if_neg h, if_pos (Int32.not_le.mp h)]
          exact ih2 (nI c) A A (Or.inr ⟨pu_m1 (by omega), rfl⟩)
    by_cases hat : r 1 (25 + 4 * x) = nI c
    · rw [if_pos hat, if_pos hat.symm]
      exact hnext
    · rw [if_neg hat, if_neg (show ¬ nI c = r 1 (25 + 4 * x) from fun e => hat e.symm)]
      cases sOpen (r 1) c with
      | true =>
        rw [if_pos rfl, if_pos rfl]
        exact hnext
      | false =>
        rw [if_neg Bool.false_ne_true, if_neg Bool.false_ne_true]
        exact ih2 b ca ra hI
theorem s_seat {q : zq} {u r : zU} (h : RR q u r) (a : Int32) : ∃ o x r', f_X10_seat q a u = some (o, q, u) ∧ f_X11_seat a r = some (x, r') ∧ RR q u r' ∧ ANS [(eIO, 1)] o x (r' 0 0) := by
  have hV := h.iv
  have h8 := hV.n8
  rcases need_r (q := q) h.rw hV a r rfl with ⟨x, hx, e1, e2, e3⟩ | ⟨e2, e3⟩
  · obtain ⟨t1, t2, t3⟩ := tb8 x (by omega)
    have hx8 : x < 8 := by omega
    obtain ⟨y, y1, y2⟩ := p_seat (q := q) (u := u) (r := z_up r 0 0 0) h.rw hV (x := x) hx rfl 8 0 5000 (-1) 0 2000000000 rfl (by decide) (Or.inl ⟨rfl, rfl⟩)
    have hl : sLe (r 1) (fun k => !(2 ^ x).testBit k) (rN (r 1)) = sLe (r 1) (fun k => !decide (k = x)) (rN (r 1)) := sLe_ext (fun k hk => by rw [t3 k (by omega)])
    have hc : f_X10_seat q a u = some (.inr y, q, u) := by
      rw [f_X10_seat_e, e2, z_bxr, e1, t1, pc_leanW h.rw hV t2, Option.bind_some, hl]
      exact y1
    have hr : f_X11_seat a r = some (y, z_up r 0 0 0) := by
      rw [f_X11_seat_e, e3, zl, if_pos rfl, zl, t00, if_pos (by decide), e1, pr_of0 hx8, Option.bind_some]
      exact y2
    exact ⟨_, _, _, hc, hr, h.t 0, ⟨t00 _ _, rfl⟩⟩
  · have hc : f_X10_seat q a u = some (.inl eIO, q, u) := by rw [f_X10_seat_e, e2, z_bxl]
    have hr : f_X11_seat a r = some (0, z_up r 0 0 1) := by rw [f_X11_seat_e, e3, zl, if_neg Bool.false_ne_true, zl, t00, if_neg (by decide)]
    exact ⟨_, _, _, hc, hr, h.t 1, by simp [ANS, t00]⟩
