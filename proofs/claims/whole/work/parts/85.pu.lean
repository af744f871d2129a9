/-! PURE, 36: fire -/
theorem ev0 : ∀ n, n < 401 → (decide ((nI n &&& (1 : Int32)) = 0)) = decide (n % 2 = 0) ∧ (decide (z_rem (nI n) 2 = 0)) = decide (n % 2 = 0) := by decide +kernel
theorem ev1 {n : Nat} (h : n < 401) : ((nI n &&& (1 : Int32)) = 0 ↔ n % 2 = 0) ∧ (z_rem (nI n) 2 = 0 ↔ n % 2 = 0) := ⟨decide_eq_decide.mp (ev0 n h).1, decide_eq_decide.mp (ev0 n h).2⟩
/-- what a byte of a fire may be -/
def okF (v : Nat → Int32) (i : Nat) : Bool := if i % 2 = 0 then !decide ((5 : Int32) ≤ v i) else !decide ((2 : Int32) ≤ v i)
def tEnd (q : zq) (b : Bool) (u : zU) : Option ((String ⊕ Unit) × zq × zU) := if b = true then some (.inr (), q, u) else some (.inl eIA, q, z_up u 1 1 0)
theorem tEnd0 (q : zq) (b : Bool) (u : zU) : ((z_b01 (bI b)).bind (fun t => z_bx (f_X10_needTape (q) t u) (fun _ q4 u3 => some (.inr (), q4, u3)))) = tEnd q b u := by
  cases b with
  | false =>
    rw [show z_b01 (bI false) = some false from rfl, Option.bind_some, f_X10_needTape_e, if_neg Bool.false_ne_true, zl, z_bxl]
    rfl
  | true =>
    rw [show z_b01 (bI true) = some true from rfl, Option.bind_some, f_X10_needTape_e, if_pos rfl, z_bxr]
    rfl
theorem lt45 {x : Int32} : ((4 : Int32) < x) ↔ (5 : Int32) ≤ x := by constructor <;> intro h <;> lia
theorem lt12 {x : Int32} : ((1 : Int32) < x) ↔ (2 : Int32) ≤ x := by constructor <;> intro h <;> lia
theorem p_fires {q : zq} {u r : zU} {n : Nat} (hn : n ≤ 400) (hu : u 1 1 = nI n) (hb : ∀ k, k < 400 → u 2 k = r 5 k) : ∀ d i f1 f2 (b : Bool), i + d = n → d < f1 → d < f2 → ∃ b2, (b = false → b2 = false) ∧ f_X10_needFires_32 q f1 (bI b) (nI i) u = tEnd q b2 u ∧ f_X11_heights_30 f2 (nI n) (bI b) (nI i) r = (if b2 = true then f_X11_heights_82 5000 (nI n) 0 0 r else some (-1, r)) := by
  intro d
  induction d with
  | zero =>
    intro i f1 f2 b hi hf1 hf2
    obtain ⟨m, rfl⟩ : ∃ m, f1 = m + 1 := ⟨f1 - 1, by omega⟩
    obtain ⟨k, rfl⟩ : ∃ k, f2 = k + 1 := ⟨f2 - 1, by omega⟩
    obtain rfl : i = n := by omega
    refine ⟨b, fun e => e, ?_, ?_⟩
    · rw [f_X10_needFires_32_s, hu, if_pos (nI_le (Nat.le_refl i) (by omega)), tEnd0]
      split <;> rfl
    · rw [f_X11_heights_30_s, if_pos (nI_le (Nat.le_refl i) (by omega))]
      cases b with
      | false => rw [if_pos (show bI false = 0 from rfl), if_neg Bool.false_ne_true]
      | true => rw [if_neg (show ¬ bI true = 0 by decide), if_pos rfl]
  | succ d ih =>
    intro i f1 f2 b hi hf1 hf2
    obtain ⟨m, rfl⟩ : ∃ m, f1 = m + 1 := ⟨f1 - 1, by omega⟩
    obtain ⟨k, rfl⟩ : ∃ k, f2 = k + 1 := ⟨f2 - 1, by omega⟩
    have hnle : ¬ nI n ≤ nI i := nI_ge (by omega) (by omega)
    cases b with
    | false =>
      refine ⟨false, fun e => e, ?_, ?_⟩
      · rw [f_X10_needFires_32_s, if_pos (show bI false = 0 from rfl), tEnd0]
      · rw [f_X11_heights_30_s, if_neg hnle, if_pos (show bI false = 0 from rfl), if_pos (show bI false = 0 from rfl), if_neg Bool.false_ne_true]
    | true =>
      have hi400 : i < 400 := by omega
      obtain ⟨b2, -, y1, y2⟩ := ih (i + 1) m k (okF (r 5) i) (by omega) (by omega) (by omega)
      refine ⟨b2, fun e => absurd e (by decide), ?_, ?_⟩
      · rw [f_X10_needFires_32_s, if_neg (show ¬ bI true = 0 by decide), hu, if_neg hnle, if_pos (pu_in hi400 (by decide)), zl, if_pos (pu_in hi400 (by decide)), zl, nI_clamp (by omega), hb i hi400, nI_1, ← y1]
        unfold okF
        by_cases he : i % 2 = 0
        · rw [if_pos ((ev1 (by omega)).1.mpr he), if_pos he]
          by_cases h5 : (5 : Int32) ≤ r 5 i
          · rw [if_pos (lt45.mpr h5), decide_eq_true h5]; rfl
          · rw [if_neg (fun e => h5 (lt45.mp e)), decide_eq_false h5]; rfl
        · rw [if_neg (fun e => he ((ev1 (by omega)).1.mp e)), if_neg he]
          by_cases h5 : (2 : Int32) ≤ r 5 i
          · rw [if_pos (lt12.mpr h5), decide_eq_true h5]; rfl
          · rw [if_neg (fun e => h5 (lt12.mp e)), decide_eq_false h5]; rfl
      · rw [f_X11_heights_30_s, if_neg hnle, if_neg (show ¬ bI true = 0 by decide), if_pos (pu_in hi400 (by decide)), zl, nI_clamp (by omega), nI_1, ← y2]
        unfold okF
        by_cases he : i % 2 = 0
        · rw [if_pos ((ev1 (by omega)).2.mpr he), if_pos he]
          by_cases h5 : (5 : Int32) ≤ r 5 i
          · rw [if_pos h5, decide_eq_true h5]; rfl
          · rw [if_neg h5, decide_eq_false h5]; rfl
        · rw [if_neg (fun e => he ((ev1 (by omega)).2.mp e)), if_neg he]
          by_cases h5 : (2 : Int32) ≤ r 5 i
          · rw [if_pos h5, decide_eq_true h5]; rfl
          · rw [if_neg h5, decide_eq_false h5]; rfl
/-- whether the pair k lets the fire be at h -/
def goF (v : Nat → Int32) (h k : Nat) : Bool := if v (2 * k + 1) = 1 then !decide (v (2 * k) < nI h) else decide (v (2 * k) < nI h)
theorem pc_fh14 {u : zU} {v : Nat → Int32} {n : Nat} (hn : 2 * n ≤ 40) (hu : u 1 1 = nI (2 * n)) (hb : ∀ k, k < 400 → u 2 k = v k) (K : Int32 → Int32 → Option Int32) (x1 : Int32) (h : Nat) : ∀ d k fuel (acc : Bool), k + d = n → d < fuel → f_X7_fireHeights_14 K fuel x1 (nI h) (bI acc) (nI (2 * k)) u = K (x1 ||| (if (acc && bal (goF v h) d k) = true then ((1 : Int32) <<< (nI h &&& 31)) else 0)) (nI (h + 1)) := by
  intro d
  induction d with
  | zero =>
    intro k fuel acc hk hf
    obtain ⟨m, rfl⟩ : ∃ m, fuel = m + 1 := ⟨fuel - 1, by omega⟩
    obtain rfl : k = n := by omega
    rw [f_X7_fireHeights_14_s, hu, nI_1, nI_1, if_pos (nI_le (show 2 * k ≤ 2 * k + 1 by omega) (by omega)), zl, zl]
    cases acc <;> rfl
  | succ d ih =>
    intro k fuel acc hk hf
    obtain ⟨m, rfl⟩ : ∃ m, fuel = m + 1 := ⟨fuel - 1, by omega⟩
    have h1 : 2 * k + 1 < 400 := by omega
    have h0 : 2 * k < 400 := by omega
    have h2 : nI (2 * k) + 2 = nI (2 * (k + 1)) := by rw [show (2 : Int32) = nI 2 from rfl, nI_add]; rfl
    rw [f_X7_fireHeights_14_s, hu, nI_1, if_neg (nI_ge (show 2 * k + 1 < 2 * n by omega) (by omega)), if_pos (pu_in h1 (by decide)), zl, nI_clamp (by omega), hb _ h1, if_pos (pu_in h0 (by decide)), zl, nI_clamp (by omega), hb _ h0, h2, zl]
    have ih2 := fun b => ih (k + 1) m b (by omega) (by omega)
    show _ = K (x1 ||| (if (acc && (goF v h k && bal (goF v h) d (k + 1))) = true then ((1 : Int32) <<< (nI h &&& 31)) else 0)) (nI (h + 1))
    rw [← Bool.and_assoc, ← ih2]
    unfold goF
    by_cases e1 : v (2 * k + 1) = 1
    · rw [if_pos e1, if_pos e1]
      cases acc with
      | false => rw [if_pos (show bI false = 0 from rfl)]; rfl
      | true =>
        rw [if_neg (show ¬ bI true = 0 by decide)]
        by_cases e2 : v (2 * k) < nI h
        · rw [if_pos e2, decide_eq_true e2]; rfl
        · rw [if_neg e2, decide_eq_false e2]; rfl
    · rw [if_neg e1, if_neg e1]
      cases acc with
      | false => rw [if_pos (show bI false = 0 from rfl)]; rfl
      | true =>
        rw [if_neg (show ¬ bI true = 0 by decide)]
        by_cases e2 : v (2 * k) < nI h
        · rw [if_pos e2, decide_eq_true e2, if_pos (pu_in h0 (by decide))]; rfl
        · rw [if_neg e2, decide_eq_false e2, if_pos (pu_in h0 (by decide))]; rfl
theorem pr_h94 {r : zU} {n : Nat} (hn : 2 * n ≤ 40) (K : Int32 → Int32 → Int32 → zU → Option (Int32 × zU)) (x1 : Int32) (h : Nat) : ∀ d k fuel (acc : Bool), k + d = n → d < fuel → f_X11_heights_94 K fuel (nI (2 * n)) x1 (nI h) (bI acc) (nI (2 * k)) r = K (nI (2 * n)) (x1 ||| (if (acc && bal (goF (r 5) h) d k) = true then ((1 : Int32) <<< (nI h &&& 31)) else 0)) (nI (h + 1)) r := by
  intro d
  induction d with
  | zero =>
    intro k fuel acc hk hf
    obtain ⟨m, rfl⟩ : ∃ m, fuel = m + 1 := ⟨fuel - 1, by omega⟩
    obtain rfl : k = n := by omega
    rw [f_X11_heights_94_s, if_pos (nI_le (Nat.le_refl _) (by omega)), nI_1, zl, zl]
    cases acc <;> rfl
  | succ d ih =>
    intro k fuel acc hk hf
    obtain ⟨m, rfl⟩ : ∃ m, fuel = m + 1 := ⟨fuel - 1, by omega⟩
    have h1 : 2 * k + 1 < 400 := by omega
    have h0 : 2 * k < 400 := by omega
    have h2 : nI (2 * k) + 2 = nI (2 * (k + 1)) := by rw [show (2 : Int32) = nI 2 from rfl, nI_add]; rfl
    rw [f_X11_heights_94_s, if_neg (nI_ge (show 2 * k < 2 * n by omega) (by omega))]
    show _ = K (nI (2 * n)) (x1 ||| (if (acc && (goF (r 5) h k && bal (goF (r 5) h) d (k + 1))) = true then ((1 : Int32) <<< (nI h &&& 31)) else 0)) (nI (h + 1)) r
    cases acc with
    | false =>
      rw [if_pos (show bI false = 0 from rfl), if_pos (show bI false = 0 from rfl), zl, nI_1]
      rfl
    | true =>
      have ih2 := fun b => ih (k + 1) m b (by omega) (by omega)
      rw [if_neg (show ¬ bI true = 0 by decide), if_pos (pu_in h0 (by decide)), zl, nI_1, if_pos (pu_in h1 (by decide)), zl, zl, nI_clamp (by omega), nI_clamp (by omega), h2, ← Bool.and_assoc, ← ih2]
      unfold goF
      by_cases e1 : r 5 (2 * k + 1) = 1
      · rw [if_pos e1, if_pos e1, if_pos e1]
        by_cases e2 : r 5 (2 * k) < nI h
        · rw [if_pos e2, decide_eq_true e2]; rfl
        · rw [if_neg e2, decide_eq_false e2, if_pos (pu_in h1 (by decide))]; rfl
      · rw [if_neg e1, if_neg e1, if_neg e1]
        by_cases e2 : r 5 (2 * k) < nI h
        · rw [if_pos e2, decide_eq_true e2]; rfl
        · rw [if_neg e2, decide_eq_false e2, if_pos (pu_in h1 (by decide))]; rfl
def PF (v : Nat → Int32) (n : Nat) (h : Nat) : Bool := bal (goF v h) n 0
theorem or_PF {v : Nat → Int32} {n h : Nat} (hh : h < 8) : nI (bset (PF v n) h) ||| (if (true && bal (goF v h) n 0) = true then ((1 : Int32) <<< (nI h &&& 31)) else 0) = nI (bset (PF v n) (h + 1)) := by
  rw [Bool.true_and]
  by_cases e : bal (goF v h) n 0 = true
  · rw [if_pos e, bset_or hh e]
  · rw [if_neg e, Int32.or_zero, bset_no1 (P := PF v n) e]
theorem nle5 {h : Nat} (hh : h < 6) : ¬ (5 : Int32) < nI h := nI_nlt (b := h) (a := 5) (by omega) (by decide)
theorem pc_fire {u : zU} {v : Nat → Int32} {n : Nat} (hn : 2 * n ≤ 40) (hu : u 1 1 = nI (2 * n)) (hb : ∀ k, k < 400 → u 2 k = v k) : f_X7_fireHeights u = some (nI (bset (PF v n) 6)) := by
  have hm : ∀ d h fuel, h + d = 6 → d < fuel → f_X7_fireHeights_4 fuel (nI (bset (PF v n) h)) (nI h) u = some (nI (bset (PF v n) 6)) := by
    intro d
    induction d with
    | zero =>
      intro h fuel hh hf
      obtain ⟨m, rfl⟩ : ∃ m, fuel = m + 1 := ⟨fuel - 1, by omega⟩
      obtain rfl : h = 6 := by omega
      rw [f_X7_fireHeights_4_s, if_pos (show (5 : Int32) < nI 6 by decide)]
    | succ d ih =>
      intro h fuel hh hf
      obtain ⟨m, rfl⟩ : ∃ m, fuel = m + 1 := ⟨fuel - 1, by omega⟩
      have h1 := pc_fh14 hn hu hb (fun k1 k2 => f_X7_fireHeights_4 m k1 k2 u) (nI (bset (PF v n) h)) h n 0 5000 true (by omega) (by omega)
      rw [or_PF (by omega)] at h1
      rw [f_X7_fireHeights_4_s, if_neg (nle5 (by omega))]
      exact h1.trans (ih (h + 1) m (by omega) (by omega))
  rw [f_X7_fireHeights_e]
  exact hm 6 0 5000 rfl (by decide)
theorem pr_fire {r : zU} {n : Nat} (hn : 2 * n ≤ 40) : f_X11_heights_82 5000 (nI (2 * n)) 0 0 r = some (nI (bset (PF (r 5) n) 6), r) := by
  have hm : ∀ d h fuel, h + d = 6 → d < fuel → f_X11_heights_82 fuel (nI (2 * n)) (nI (bset (PF (r 5) n) h)) (nI h) r = some (nI (bset (PF (r 5) n) 6), r) := by
    intro d
    induction d with
    | zero =>
      intro h fuel hh hf
      obtain ⟨m, rfl⟩ : ∃ m, fuel = m + 1 := ⟨fuel - 1, by omega⟩
      obtain rfl : h = 6 := by omega
      rw [f_X11_heights_82_s, if_pos (show (5 : Int32) < nI 6 by decide)]
    | succ d ih =>
      intro h fuel hh hf
      obtain ⟨m, rfl⟩ : ∃ m, fuel = m + 1 := ⟨fuel - 1, by omega⟩
      have h1 := pr_h94 (r := r) hn (fun k1 k3 k4 u => f_X11_heights_82 m k1 k3 k4 u) (nI (bset (PF (r 5) n) h)) h n 0 5000 true (by omega) (by omega)
      rw [or_PF (by omega)] at h1
      rw [f_X11_heights_82_s, if_neg (nle5 (by omega))]
      exact h1.trans (ih (h + 1) m (by omega) (by omega))
  exact hm 6 0 5000 rfl (by decide)
theorem p_heights {q : zq} {u r : zU} (hT : TPe u r) : (∃ n, 2 * n ≤ 40 ∧ f_X10_needFires q u = some (.inr (), q, u) ∧ f_X7_fireHeights u = some (nI (bset (PF (r 5) n) 6)) ∧ f_X11_heights r = some (nI (bset (PF (r 5) n) 6), z_up r 0 8 0)) ∨ (f_X10_needFires q u = some (.inl eIA, q, z_up u 1 1 0) ∧ f_X11_heights r = some (-1, z_up r 0 8 0)) := by
  obtain ⟨n, ⟨hn, -, -⟩, e1, e2, hb⟩ := hT
  have hb1 : ∀ k, k < 400 → u 2 k = (z_up r 0 8 0) 5 k := fun k hk => (hb k hk).1
  have h40 : ((40 : Int32) < nI n) ↔ 40 < n := ⟨fun h => Classical.byContradiction (fun hc => nI_nlt (b := n) (a := 40) (by omega) (by decide) h), fun h => nI_lt (a := 40) h (by omega)⟩
  have hstart : ∃ b : Bool, (b = true → n ≤ 40 ∧ n % 2 = 0) ∧ f_X10_needFires q u = f_X10_needFires_32 q 5000 (bI b) 0 u ∧ f_X11_heights r = f_X11_heights_30 5000 (nI n) (bI b) 0 (z_up r 0 8 0) := by
    by_cases h : 40 < n
    · refine ⟨false, fun e => absurd e (by decide), ?_, ?_⟩
      · rw [f_X10_needFires_e, e1, if_pos (h40.mpr h)]; rfl
      · rw [f_X11_heights_e, zl, zl, e2, if_pos (h40.mpr h)]
        split <;> rfl
    · by_cases he : n % 2 = 0
      · refine ⟨true, fun _ => ⟨by omega, he⟩, ?_, ?_⟩
        · rw [f_X10_needFires_e, e1, if_neg (fun e => h (h40.mp e)), if_pos ((ev1 (by omega)).1.mpr he)]; rfl
        · rw [f_X11_heights_e, zl, zl, e2, if_neg (fun e => h (h40.mp e)), if_pos ((ev1 (by omega)).2.mpr he)]; rfl
      · refine ⟨false, fun e => absurd e (by decide), ?_, ?_⟩
        · rw [f_X10_needFires_e, e1, if_neg (fun e => h (h40.mp e)), if_neg (fun e => he ((ev1 (by omega)).1.mp e))]; rfl
        · rw [f_X11_heights_e, zl, zl, e2, if_neg (fun e => he ((ev1 (by omega)).2.mp e))]; rfl
  obtain ⟨b, hb0, s1, s2⟩ := hstart
  obtain ⟨b2, h2, y1, y2⟩ := p_fires (q := q) (u := u) (r := z_up r 0 8 0) hn e1 hb1 n 0 5000 5000 b (by omega) (by omega) (by omega)
  have y1' : f_X10_needFires q u = tEnd q b2 u := s1.trans y1
  have y2' : f_X11_heights r = (if b2 = true then f_X11_heights_82 5000 (nI n) 0 0 (z_up r 0 8 0) else some (-1, z_up r 0 8 0)) := s2.trans y2
  cases b2 with
  | false =>
    right
    exact ⟨y1', by rw [y2', if_neg Bool.false_ne_true]⟩
  | true =>
    left
    have hbt : b = true := by cases b with | true => rfl | false => exact absurd (h2 rfl) (by decide)
    obtain ⟨hn40, hne⟩ := hb0 hbt
    have e : n = 2 * (n / 2) := by omega
    refine ⟨n / 2, by omega, y1', pc_fire (by omega) (by rw [← e]; exact e1) (fun k hk => (hb k hk).1), ?_⟩
    rw [y2', if_pos rfl, e, pr_fire (by omega), ← e]
    rfl
theorem RR.tp {q : zq} {u r : zU} (h : RR q u r) : TPe u r := by obtain ⟨T, T', h⟩ := h; exact h.2.2.2.1
theorem s_fire {q : zq} {u r : zU} (h : RR q u r) : ∃ o u' x r', f_X10_fire q u = some (o, q, u') ∧ f_X11_fire r = some (x, r') ∧ RR q u' r' ∧ ANS [(eIA, 1)] o x (r' 0 0) := by
  have h0 := h.len (n := 0) (by decide)
  rcases p_heights (q := q) h.tp with ⟨n, hn, a1, a2, a3⟩ | ⟨a1, a3⟩
  · have hc : f_X10_fire q u = some (.inr (nI (bset (PF (r 5) n) 6)), q, z_up u 1 1 0) := by rw [f_X10_fire_e, a1, z_bxr, a2, Option.bind_some, zl]
    have hlt := bset_lt (PF (r 5) n) 6
    have hr : f_X11_fire r = some (nI (bset (PF (r 5) n) 6), z_up (z_up r 0 8 0) 0 0 0) := by rw [f_X11_fire_e, a3, z_b2s, if_neg (pu_m1 (by omega)), zl, t00, if_pos (by decide)]
    exact ⟨_, _, _, _, hc, hr, h0.t 0, ⟨t00 _ _, rfl⟩⟩
  · have hc : f_X10_fire q u = some (.inl eIA, q, z_up u 1 1 0) := by rw [f_X10_fire_e, a1, z_bxl]
    have hr : f_X11_fire r = some (0, z_up (z_up r 0 8 0) 0 0 1) := by rw [f_X11_fire_e, a3, z_b2s, if_pos rfl, zl, t00, if_neg (by decide)]
    exact ⟨_, _, _, _, hc, hr, h0.t 1, by simp [ANS, t00]⟩
