/-! PURE, 33: odds -/
theorem cs0 : ∀ c, c < 8 → ∀ s, s < 9 → (nI c + nI s) &&& 7 = nI ((c + s) % 8) ∧ z_rem (nI c + nI s) 8 = nI ((c + s) % 8) := by decide +kernel
theorem an7 : ∀ t, t < 8 → nI t &&& 7 = nI t := by decide +kernel
def sI (ways : Nat → Int32) (c R : Nat) (next : Nat → Int32) : Nat → Int32 := zfo (fun i f => upd f ((c + (i + 1)) % 8) (f ((c + (i + 1)) % 8) + ways c)) R next
def sCy (ways : Nat → Int32) (R c : Nat) (next : Nat → Int32) : Nat → Int32 := zfo (fun c f => sI ways c R f) c next
def wy (R t : Nat) : Nat → Nat → Int32
  | 0 => upd zO0 t 1
  | n + 1 => sCy (wy R t n) R 8 zO0
def wl (al : Int32) (ways : Nat → Int32) (c : Nat) : Nat → Int32 := fun j => if j < c then ways j * 10000 / al else ways j
theorem od_in_p {ways next : Nat → Int32} {R c : Nat} (hR : R ≤ 8) (hc : c < 8) : ∀ d i fuel, i + d = R → d < fuel → od_in ways (nI R) (nI c) fuel (nI (i + 1)) (sI ways c i next) = some (sI ways c R next) := by
  intro d
  induction d with
  | zero =>
    intro i fuel hi hf
    obtain ⟨m, rfl⟩ : ∃ m, fuel = m + 1 := ⟨fuel - 1, by omega⟩
    obtain rfl : i = R := by omega
    unfold od_in
    rw [if_pos (nI_lt (show i < i + 1 by omega) (by omega))]
  | succ d ih =>
    intro i fuel hi hf
    obtain ⟨m, rfl⟩ : ∃ m, fuel = m + 1 := ⟨fuel - 1, by omega⟩
    unfold od_in
    rw [if_neg (nI_nlt (show i + 1 ≤ R by omega) (by omega)), (cs0 c hc (i + 1) (by omega)).1, if_pos ⟨pu_in (Nat.mod_lt _ (by decide)) (by decide), pu_in hc (by decide)⟩, nI_clamp (show (c + (i + 1)) % 8 < 2 ^ 31 by omega), nI_clamp (show c < 2 ^ 31 by omega), nI_1]
    exact ih (i + 1) m (by omega) (by omega)
theorem od_c_p {ways next : Nat → Int32} {R : Nat} (hR : R ≤ 8) : ∀ d c fuel, c + d = 8 → d < fuel → od_c ways (nI R) fuel (nI c) (sCy ways R c next) = some (sCy ways R 8 next) := by
  intro d
  induction d with
  | zero =>
    intro i fuel hi hf
    obtain ⟨m, rfl⟩ : ∃ m, fuel = m + 1 := ⟨fuel - 1, by omega⟩
    obtain rfl : i = 8 := by omega
    unfold od_c
    rw [if_pos pu_le8]
  | succ d ih =>
    intro c fuel hi hf
    obtain ⟨m, rfl⟩ : ∃ m, fuel = m + 1 := ⟨fuel - 1, by omega⟩
    have h1 := od_in_p (ways := ways) (next := sCy ways R c next) hR (show c < 8 by omega) R 0 5000 (by omega) (by omega)
    have h1' : od_in ways (nI R) (nI c) 5000 1 (sCy ways R c next) = some (sI ways c R (sCy ways R c next)) := h1
    unfold od_c
    rw [if_neg (pu_ge8 (by omega)), h1', Option.bind_some, nI_1]
    exact ih (c + 1) m (by omega) (by omega)
theorem od_n_p {R t n : Nat} (hR : R ≤ 8) (hn : n ≤ 5) : ∀ d i fuel, i + d = n → d < fuel → od_n (nI n) (nI R) fuel (nI i) (nI (R ^ i)) (wy R t i) = some (nI (R ^ n), wy R t n) := by
  intro d
  induction d with
  | zero =>
    intro i fuel hi hf
    obtain ⟨m, rfl⟩ : ∃ m, fuel = m + 1 := ⟨fuel - 1, by omega⟩
    obtain rfl : i = n := by omega
    unfold od_n
    rw [if_pos (nI_le (Nat.le_refl _) (by omega))]
  | succ d ih =>
    intro i fuel hi hf
    obtain ⟨m, rfl⟩ : ∃ m, fuel = m + 1 := ⟨fuel - 1, by omega⟩
    have h1 : od_c (wy R t i) (nI R) 5000 0 zO0 = some (wy R t (i + 1)) := od_c_p (ways := wy R t i) (next := zO0) hR 8 0 5000 rfl (by decide)
    unfold od_n
    rw [if_neg (nI_ge (by omega) (by omega)), h1, Option.bind_some, nI_1, pu_mul, ← Nat.pow_succ]
    exact ih (i + 1) m (by omega) (by omega)
theorem od_l_p {al : Int32} {ways : Nat → Int32} (h0 : ¬ al ≤ 0) : ∀ d c fuel, c + d = 8 → d < fuel → od_l al fuel (nI c) (wl al ways c) = some (wl al ways 8) := by
  intro d
  induction d with
  | zero =>
    intro i fuel hi hf
    obtain ⟨m, rfl⟩ : ∃ m, fuel = m + 1 := ⟨fuel - 1, by omega⟩
    obtain rfl : i = 8 := by omega
    unfold od_l
    rw [if_pos pu_le8]
  | succ d ih =>
    intro c fuel hi hf
    obtain ⟨m, rfl⟩ : ∃ m, fuel = m + 1 := ⟨fuel - 1, by omega⟩
    have hne : ¬ al = 0 := fun e => h0 (by rw [e]; decide)
    have e : upd (wl al ways c) c (wl al ways c c * 10000 / al) = wl al ways (c + 1) := by
      funext j
      by_cases hj : j = c
      · subst hj
        rw [upd_eq]
        show (if j < j then ways j * 10000 / al else ways j) * 10000 / al = if j < j + 1 then ways j * 10000 / al else ways j
        rw [if_neg (by omega), if_pos (by omega)]
      · rw [upd_ne hj]
        show (if j < c then ways j * 10000 / al else ways j) = if j < c + 1 then ways j * 10000 / al else ways j
        by_cases h : j < c
        · rw [if_pos h, if_pos (by omega)]
        · rw [if_neg h, if_neg (by omega)]
    unfold od_l
    rw [if_neg (pu_ge8 (by omega)), if_neg h0, if_pos ⟨pu_in (show c < 8 by omega) (by decide), hne⟩, nI_clamp (show c < 2 ^ 31 by omega), e, nI_1]
    exact ih (c + 1) m (by omega) (by omega)
theorem pw8 {R n : Nat} (h1 : 1 ≤ R) (hR : R ≤ 8) (hn : n ≤ 5) : 1 ≤ R ^ n ∧ R ^ n ≤ 32768 := by
  refine ⟨Nat.pow_pos (by omega), ?_⟩
  exact Nat.le_trans (Nat.pow_le_pow_left hR n) (Nat.le_trans (Nat.pow_le_pow_right (by decide) hn) (by decide))
theorem pc_oddsBy {u : zU} {v : Nat → Int32} (hW : RW u 6 v) (hV : IV v) {R : Nat} (h1 : 1 ≤ R) (hR : R ≤ 8) (h7 : v 7 = nI R) {n : Nat} (hn : n ≤ 5) : f_X10_oddsBy (nI n) u = some (wl (nI (R ^ n)) (wy R (tP v) n) 8) := by
  have ht := hV.t8
  obtain ⟨p1, p2⟩ := pw8 (n := n) h1 hR hn
  have h0 : ¬ nI (R ^ n) ≤ 0 := nI_ge (a := 0) (by omega) (by omega)
  have hl := od_l_p (ways := wy R (tP v) n) h0 8 0 5000 rfl (by decide)
  have hl' : od_l (nI (R ^ n)) 5000 0 (wy R (tP v) n) = some (wl (nI (R ^ n)) (wy R (tP v) n) 8) := hl
  have hn1 : od_n (nI n) (nI R) 6 0 1 (upd zO0 (tP v) 1) = some (nI (R ^ n), wy R (tP v) n) := od_n_p (t := tP v) hR hn n 0 6 (by omega) (by omega)
  unfold f_X10_oddsBy
  rw [hW.s14, hV.t, an7 _ ht, if_pos (pu_in ht (by decide)), nI_clamp (by omega), hW.s12, h7, hn1, Option.bind_some]
  exact hl'
