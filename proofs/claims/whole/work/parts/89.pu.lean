/-! PURE, 40: watch -/
def cB0 (j : Nat) (y : Int32) : Bool := decide (nI (j % 10 + 1) ≤ y) && decide (y ≤ nI (j % 10 + j / 10 + 1))
def Qw (v : Nat → Int32) (n m : Nat) (j : Nat) : Bool := cB0 j (nI m) && cBe v n j
theorem mx_k2 {a c : Nat} (h : a ≤ c) : ∃ k, k ≤ c ∧ z_max (nI a) (nI c - nI a) = nI k := by
  have e : nI c - nI a = nI (c - a) := by
    rw [show nI c = nI (c - a) + nI a by rw [nI_add]; congr 1; omega]
    lia
  rw [e]
  show ∃ k, k ≤ c ∧ (if nI a < nI (c - a) then nI (c - a) else nI a) = nI k
  split
  · exact ⟨_, by omega, rfl⟩
  · exact ⟨_, by omega, rfl⟩
theorem pr_w55 {r : zU} {v : Nat → Int32} {n m : Nat} (h9 : ∀ k, k < 80 → r 9 k = bI (cBe v n k)) (K : Int32 → Int32 → Int32 → Int32 → zU → Option (Int32 × zU)) (x1 x2 x3 : Int32) : ∀ d j fuel, j + d = 80 → d < fuel → f_X11_watch_55 K fuel x1 x2 x3 (nI m) (nI (bcnt (Qw v n m) j)) (nI j) r = (if f_X11_greater (nI (bcnt (Qw v n m) 80)) (x1 - nI (bcnt (Qw v n m) 80)) r < x3 then K x1 (nI m) (f_X11_greater (nI (bcnt (Qw v n m) 80)) (x1 - nI (bcnt (Qw v n m) 80)) r) (nI (m + 1)) r else K x1 x2 x3 (nI (m + 1)) r) := by
  intro d
  induction d with
  | zero =>
    intro j fuel hs hf
    obtain ⟨p, rfl⟩ : ∃ p, fuel = p + 1 := ⟨fuel - 1, by omega⟩
    obtain rfl : j = 80 := by omega
    rw [f_X11_watch_55_s, if_pos (show (80 : Int32) ≤ nI 80 by decide), zl, zl, nI_1]
  | succ d ih =>
    intro j fuel hs hf
    obtain ⟨p, rfl⟩ : ∃ p, fuel = p + 1 := ⟨fuel - 1, by omega⟩
    have hj : j < 80 := by omega
    have ih2 := ih (j + 1) p (by omega) (by omega)
    rw [bcnt_s] at ih2
    rw [f_X11_watch_55_s, if_neg (show ¬ (80 : Int32) ≤ nI j from nI_ge (b := 80) hj (by decide)), if_pos (pu_in hj (by decide)), zl, nI_clamp (by omega), h9 j hj, pr_canBe hj, zl, zl, zl, nI_1, nI_1, Int32.add_zero]
    cases hc : cBe v n j with
    | false =>
      have hq : Qw v n m j = false := by unfold Qw; rw [hc, Bool.and_false]
      rw [hq, if_neg Bool.false_ne_true] at ih2
      rw [if_pos (show bI false = 0 from rfl)]
      exact ih2
    | true =>
      rw [if_neg (show ¬ bI true = 0 by decide)]
      cases hb : cB0 j (nI m) with
      | false =>
        have hq : Qw v n m j = false := by unfold Qw; rw [hb, Bool.false_and]
        rw [hq, if_neg Bool.false_ne_true] at ih2
        unfold cB0 at hb
        rw [hb, if_neg Bool.false_ne_true]
        exact ih2
      | true =>
        have hq : Qw v n m j = true := by unfold Qw; rw [hb, hc]; rfl
        rw [hq, if_pos rfl] at ih2
        unfold cB0 at hb
        rw [hb, if_pos rfl]
        exact ih2
theorem pc_fitW {q : zq} {u : zU} {v : Nat → Int32} {n m : Nat} (hm : 1 ≤ m) (hm2 : m < 100) : f_X10_fittingPairs q (sLo v n) (sHi v n) (nI m) u = some (nI (bcnt (Qw v n m) 80)) := by
  refine pc_fit (fun rc s h1 h2 => ?_)
  have hne : ¬ nI m = 0 := fun e => by
    have : m = 0 := (nI_eq (b := 0) (by omega) (by decide)).mp e
    omega
  rw [if_neg hne, pc_can1 h2, pc_can h2 h1]
  unfold Qw cB0
  rw [show (10 * rc + s) % 10 = s by omega, show (10 * rc + s) / 10 = rc by omega, Nat.add_assoc]
theorem p_watch {q : zq} {u r : zU} {v : Nat → Int32} {n : Nat} (h9 : ∀ k, k < 80 → r 9 k = bI (cBe v n k)) : ∀ d m f1 f2 b ca ra, m + d = 18 → 1 ≤ m → d < f1 → d < f2 → ((b = -1 ∧ ca = nI (bcnt (cBe v n) 80) + 1 ∧ ra = 2000000000) ∨ ca = ra) → ∃ y, f_X10_watch_48 q f1 (sLo v n) (sHi v n) (nI (bcnt (cBe v n) 80)) b ca (nI m) u = some (.inr y, q, u) ∧ f_X11_watch_37 f2 (nI (bcnt (cBe v n) 80)) b ra (nI m) r = some (y, r) := by
  have h80 := bcnt_le (cBe v n) 80
  intro d
  induction d with
  | zero =>
    intro m f1 f2 b ca ra hm h1 hf1 hf2 hI
    obtain ⟨p, rfl⟩ : ∃ p, f1 = p + 1 := ⟨f1 - 1, by omega⟩
    obtain ⟨p2, rfl⟩ : ∃ p, f2 = p + 1 := ⟨f2 - 1, by omega⟩
    obtain rfl : m = 18 := by omega
    rw [f_X10_watch_48_s, f_X11_watch_37_s, if_pos (show (17 : Int32) < nI 18 by decide), if_pos (show (17 : Int32) < nI 18 by decide)]
    exact ⟨_, rfl, rfl⟩
  | succ d ih =>
    intro m f1 f2 b ca ra hm h1 hf1 hf2 hI
    obtain ⟨p, rfl⟩ : ∃ p, f1 = p + 1 := ⟨f1 - 1, by omega⟩
    obtain ⟨p2, rfl⟩ : ∃ p, f2 = p + 1 := ⟨f2 - 1, by omega⟩
    have hn17 : ¬ (17 : Int32) < nI m := nI_nlt (a := 17) (b := m) (by omega) (by decide)
    have hle : bcnt (Qw v n m) 80 ≤ bcnt (cBe v n) 80 := bcnt_mono 80 (fun k _ hk => by unfold Qw at hk; rw [Bool.and_eq_true] at hk; exact hk.2)
    obtain ⟨k, hk, ek⟩ := mx_k2 hle
    have eg : f_X11_greater (nI (bcnt (Qw v n m) 80)) (nI (bcnt (cBe v n) 80) - nI (bcnt (Qw v n m) 80)) r = nI k := by rw [← ek, f_X11_greater_e, z_max_eq]
    rw [f_X10_watch_48_s, f_X11_watch_37_s, if_neg hn17, if_neg hn17]
    by_cases ht : nI (bcnt (cBe v n) 80) ≤ 1
    · rw [if_pos ht, if_pos ht]
      exact ⟨_, rfl, rfl⟩
    · have hw : f_X11_watch_55 (fun k1 k2 k3 k4 u => f_X11_watch_37 p2 k1 k2 k3 k4 u) 5000 (nI (bcnt (cBe v n) 80)) b ra (nI m) 0 0 r = _ := pr_w55 (m := m) h9 (fun k1 k2 k3 k4 u => f_X11_watch_37 p2 k1 k2 k3 k4 u) (nI (bcnt (cBe v n) 80)) b ra 80 0 5000 rfl (by decide)
      rw [if_neg ht, if_neg ht, pc_fitW h1 (by omega), Option.bind_some, zl, ek, hw, eg, nI_1]
      have ih2 := fun b ca ra => ih (m + 1) p p2 b ca ra (by omega) (by omega) (by omega) (by omega)
      rcases hI with ⟨e1, e2, e3⟩ | e
      · rw [e2, e3, nI_1, if_neg (nI_ge (show k < bcnt (cBe v n) 80 + 1 by omega) (by omega)), if_pos (show nI k < (2000000000 : Int32) from nI_lt (a := k) (b := 2000000000) (by omega) (by decide))]
        exact ih2 (nI m) (nI k) (nI k) (Or.inr rfl)
      · rw [e]
        by_cases hh : ra ≤ nI k
        · rw [if_pos hh, if_neg (Int32.not_lt.mpr hh)]
          exact ih2 b ra ra (Or.inr rfl)
        · rw [if_neg hh, if_pos (Int32.not_le.mp hh)]
          exact ih2 (nI m) (nI k) (nI k) (Or.inr rfl)
theorem s_watch {q : zq} {u r : zU} (h : RR q u r) : ∃ o u' x r', f_X10_watch q u = some (o, q, u') ∧ f_X11_watch r = some (x, r') ∧ RR q u' r' ∧ ANS [(eIA, 1)] o x (r' 0 0) := by
  have h0 := h.len (n := 0) (by decide)
  rcases p_heard (q := q) h.tp with ⟨n, r1, hn, a1, a2, a3, a4, a5, a6⟩ | ⟨a1, a3⟩
  · have hle := bcnt_le (cBe (r 5) n) 80
    have h9 : RR q (z_up u 1 1 0) (z_up r1 0 0 0) := (h0.e9 a5).t 0
    obtain ⟨y, y1, y2⟩ := p_watch (q := q) (u := z_up u 1 1 0) (r := z_up r1 0 0 0) (v := r 5) (n := n) a6 17 1 5000 5000 (-1) _ 2000000000 rfl (by decide) (by decide) (by decide) (Or.inl ⟨rfl, rfl, rfl⟩)
    have hc : f_X10_watch q u = some (.inr y, q, z_up u 1 1 0) := by
      rw [f_X10_watch_e, a1, z_bxr, a2, Option.bind_some, a3, Option.bind_some, zl, pc_fit (Q := cBe (r 5) n) (fun rc s h1 h2 => by rw [if_pos rfl]; exact pc_can h2 h1), Option.bind_some, zl]
      exact y1
    have hr : f_X11_watch r = some (y, z_up r1 0 0 0) := by
      rw [f_X11_watch_e, a4, z_b2s, if_neg (pu_m1 (by omega)), zl, t00, if_pos (by decide)]
      exact y2
    exact ⟨_, _, _, _, hc, hr, h9, ⟨t00 _ _, rfl⟩⟩
  · have hc : f_X10_watch q u = some (.inl eIA, q, z_up u 1 1 0) := by rw [f_X10_watch_e, a1, z_bxl]
    have hr : f_X11_watch r = some (0, z_up (z_up r 0 8 0) 0 0 1) := by rw [f_X11_watch_e, a3, z_b2s, if_pos rfl, zl, t00, if_neg (by decide)]
    exact ⟨_, _, _, _, hc, hr, h0.t 1, by simp [ANS, t00]⟩
