/-! PURE, 52: numbers -/
def dg (c : Int32) : Nat := (c - 48).toNatClampNeg
theorem isDi_iff (c : Int32) : isDi c = true ↔ (¬ c - 48 < 0 ∧ c - 48 ≤ 9) := by
  have h : isDi c = true ↔ ((48 : Int32) ≤ c ∧ c ≤ 57) := by
    unfold isDi
    rw [Bool.and_eq_true, decide_eq_true_eq, decide_eq_true_eq]
  rw [h]
  lia
theorem dg_e {c : Int32} (h : isDi c = true) : dg c ≤ 9 ∧ c - 48 = nI (dg c) := by
  have h2 := (isDi_iff c).mp h
  unfold dg
  generalize c - 48 = d at h2
  have h3 : 0 ≤ d.toInt := by have := Int32.le_iff_toInt_le.mp (Int32.not_lt.mp h2.1); exact this
  have h4 : d.toInt ≤ 9 := by have := Int32.le_iff_toInt_le.mp h2.2; exact this
  constructor
  · unfold Int32.toNatClampNeg; omega
  · apply Int32.toInt_inj.mp
    show d.toInt = (Int32.ofNat d.toNatClampNeg).toInt
    rw [Int32.toInt_ofNat_of_lt (by unfold Int32.toNatClampNeg; omega)]
    unfold Int32.toNatClampNeg; omega
/-- the number that d figures from b on tell behind x -/
def nv (t : Nat → Int32) : Nat → Nat → Nat → Nat
  | 0, x, _ => x
  | d + 1, x, b => nv t d (10 * x + dg (t b)) (b + 1)
theorem nv_s (t : Nat → Int32) : ∀ d x b, nv t (d + 1) x b = 10 * nv t d x b + dg (t (b + d))
  | 0, x, b => rfl
  | d + 1, x, b => by
    show nv t (d + 1) (10 * x + dg (t b)) (b + 1) = 10 * nv t d (10 * x + dg (t b)) (b + 1) + dg (t (b + (d + 1)))
    rw [nv_s t d, show b + 1 + d = b + (d + 1) by omega]
/-- all of the d from b on are figures -/
def ald (t : Nat → Int32) : Nat → Nat → Bool
  | 0, _ => true
  | d + 1, b => isDi (t b) && ald t d (b + 1)
theorem nv_b (t : Nat → Int32) : ∀ d x b, ald t d b = true → nv t d x b + 1 ≤ 10 ^ d * (x + 1)
  | 0, x, b, _ => by show x + 1 ≤ 1 * (x + 1); omega
  | d + 1, x, b, h => by
    have h : (isDi (t b) && ald t d (b + 1)) = true := h
    rw [Bool.and_eq_true] at h
    have h1 := nv_b t d (10 * x + dg (t b)) (b + 1) h.2
    have h2 := (dg_e h.1).1
    show nv t d (10 * x + dg (t b)) (b + 1) + 1 ≤ 10 ^ (d + 1) * (x + 1)
    have h3 : 10 ^ d * (10 * x + dg (t b) + 1) ≤ 10 ^ d * (10 * (x + 1)) := Nat.mul_le_mul_left _ (by omega)
    rw [show 10 ^ (d + 1) * (x + 1) = 10 ^ d * (10 * (x + 1)) by rw [Nat.pow_succ, Nat.mul_assoc]]
    omega
theorem pc_val44 {t : Nat → Int32} {u : zU} {i e : Nat} (ht : ∀ k, k < 400 → u 2 k = t k) (hi : u 3 4 = nI i) (hi4 : i < 401) (h5 : u 5 i = nI e) (he : e ≤ 400) : ∀ d b x fuel, b + d = e → d < fuel → f_X8_value_44 fuel (nI x) (nI b) u = some (if ald t d b = true then nI (nv t d x b) else -1) := by
  intro d
  induction d with
  | zero =>
    intro b x fuel hb hf
    obtain ⟨m, rfl⟩ : ∃ m, fuel = m + 1 := ⟨fuel - 1, by omega⟩
    obtain rfl : b = e := by omega
    rw [f_X8_value_44_s, hi, if_pos (pu_in hi4 (by decide)), zl, nI_clamp (by omega), h5, if_pos (nI_le (Nat.le_refl _) (by omega))]
    rfl
  | succ d ih =>
    intro b x fuel hb hf
    obtain ⟨m, rfl⟩ : ∃ m, fuel = m + 1 := ⟨fuel - 1, by omega⟩
    rw [f_X8_value_44_s, hi, if_pos (pu_in hi4 (by decide)), zl, nI_clamp (by omega), h5, if_neg (nI_ge (show b < e by omega) (by omega)), if_pos (pu_in (show b < 400 by omega) (by decide)), zl, nI_clamp (by omega), ht b (by omega), zl]
    show _ = some (if (isDi (t b) && ald t d (b + 1)) = true then nI (nv t d (10 * x + dg (t b)) (b + 1)) else -1)
    by_cases h : isDi (t b) = true
    · have h2 := (isDi_iff _).mp h
      rw [if_neg h2.1, if_pos h2.2, zl, (dg_e h).2, show nI x * 10 + nI (dg (t b)) = nI (10 * x + dg (t b)) by rw [show (10 : Int32) = nI 10 from rfl, pu_mul, nI_add, Nat.mul_comm], nI_1, ih (b + 1) _ m (by omega) (by omega), h, Bool.true_and]
    · have h3 : isDi (t b) = false := by cases hh : isDi (t b) with
        | true => exact absurd hh h
        | false => rfl
      rw [h3, Bool.false_and, if_neg Bool.false_ne_true]
      by_cases h4 : t b - 48 < 0
      · rw [if_pos h4]
      · rw [if_neg h4, if_neg (fun h5 => h ((isDi_iff _).mpr ⟨h4, h5⟩))]
/-- the number of a thing from b to e; -1 -/
def vlu (t : Nat → Int32) (b e : Nat) : Int32 := if e - b < 1 ∨ 3 < e - b then -1 else if ald t (e - b) b = true then nI (nv t (e - b) 0 b) else -1
theorem pc_value {t : Nat → Int32} {u : zU} {i b e : Nat} (ht : ∀ k, k < 400 → u 2 k = t k) (hi : u 3 4 = nI i) (hi4 : i < 401) (h4 : u 4 i = nI b) (h5 : u 5 i = nI e) (hb : b ≤ e) (he : e ≤ 400) : f_X8_value u = some (vlu t b e) := by
  have hin := pu_in hi4 (show 401 < 2 ^ 31 by decide)
  rw [f_X8_value_e, hi, if_pos hin, zl, if_pos hin, zl, zl, nI_clamp (by omega), h4, h5, nI_sb hb, if_pos hin, zl]
  unfold vlu
  by_cases h1 : e - b < 1
  · rw [if_pos (Or.inl h1), if_pos (show nI (e - b) < 1 from (nI_lt (a := e - b) (b := 1) h1 (by decide)))]
  · rw [if_neg (show ¬ nI (e - b) < 1 from nI_nlt (a := e - b) (b := 1) (by omega) (by omega))]
    by_cases h3 : 3 < e - b
    · rw [if_pos (Or.inr h3), if_neg (show ¬ nI (e - b) ≤ 3 from nI_ge (a := 3) (b := e - b) h3 (by omega))]
    · rw [if_pos (show nI (e - b) ≤ 3 from nI_le (a := e - b) (b := 3) (by omega) (by decide)), if_neg (show ¬ (e - b < 1 ∨ 3 < e - b) by omega)]
      exact pc_val44 ht hi hi4 h5 he (e - b) b 0 5000 (by omega) (by omega)
theorem ads48 (x c : Int32) : x + c - 48 = x + (c - 48) := by lia
/-- the end of the reference's reading of k figures from b on -/
def figR (lo hi : Int32) (k b : Nat) (x : Int32) (v : zU) : Option (Int32 × zU) := if k = 0 ∨ 3 < k ∨ x < lo ∨ ¬ x ≤ hi then some (x, f_X11_wrong (nI b) v) else some (x, v)
theorem figE {v : zU} {b k : Nat} (h11 : v 0 11 = nI (b + k)) (hb : b + k ≤ 1000) (lo hi x : Int32) : (if (v 0 11) = nI b then (z_let (f_X11_wrong (nI b) v) (fun u3 => some (x, u3))) else (if (3 : Int32) < ((v 0 11) - nI b) then (z_let (f_X11_wrong (nI b) v) (fun u4 => some (x, u4))) else (if x < lo then (z_let (f_X11_wrong (nI b) v) (fun u5 => some (x, u5))) else (if x ≤ hi then (some (x, v)) else (z_let (f_X11_wrong (nI b) v) (fun u6 => some (x, u6))))))) = figR lo hi k b x v := by
  rw [h11, nI_sb (by omega), show b + k - b = k by omega, zl]
  unfold figR
  by_cases h0 : k = 0
  · rw [if_pos (by rw [h0, Nat.add_zero]), if_pos (Or.inl h0)]
  · rw [if_neg (fun e => h0 (by have := (nI_eq (by omega) (by omega)).mp e; omega))]
    by_cases h3 : 3 < k
    · rw [if_pos (show (3 : Int32) < nI k from nI_lt (a := 3) h3 (by omega)), if_pos (Or.inr (Or.inl h3))]
    · rw [if_neg (show ¬ (3 : Int32) < nI k from nI_nlt (a := 3) (by omega) (by decide))]
      by_cases hl : x < lo
      · rw [if_pos hl, if_pos (Or.inr (Or.inr (Or.inl hl)))]
      · rw [if_neg hl]
        by_cases hh : x ≤ hi
        · rw [if_pos hh, if_neg (by rintro (a | a | a | a) <;> first | exact h0 a | exact h3 a | exact hl a | exact a hh)]
        · rw [if_neg hh, if_pos (Or.inr (Or.inr (Or.inr hh)))]
theorem pr_fig18 {t : Nat → Int32} {n b : Nat} (lo hi : Int32) : ∀ d k fuel v, k + d = 4 → d < fuel → TXr v t n → v 0 11 = nI (b + k) → b + k ≤ n → f_X11_figures_18 fuel lo hi (nI b) (nI (nv t k 0 b)) v = figR lo hi (run isDi t (min d (n - (b + k))) (b + k) - b) b (nI (nv t (run isDi t (min d (n - (b + k))) (b + k) - b) 0 b)) (z_up v 0 11 (nI (run isDi t (min d (n - (b + k))) (b + k)))) := by
  intro d
  induction d with
  | zero =>
    intro k fuel v hk hf hX h11 hb
    obtain ⟨m, rfl⟩ : ∃ m, fuel = m + 1 := ⟨fuel - 1, by omega⟩
    have hn := hX.1
    rw [Nat.zero_min]
    show _ = figR lo hi (b + k - b) b (nI (nv t (b + k - b) 0 b)) (z_up v 0 11 (nI (b + k)))
    rw [show b + k - b = k by omega, zup1 v 0 11 _ h11, f_X11_figures_18_s, hX.2.1]
    have hE := figE h11 (by omega) lo hi (nI (nv t k 0 b))
    by_cases h1 : b + k < n
    · rw [if_neg (show ¬ nI n ≤ v 0 11 by rw [h11]; exact nI_ge h1 (by omega)), h11, hX.at h1, Option.bind_some, zl]
      rw [h11] at hE
      split
      · rw [if_pos (show (3 : Int32) < nI (b + k) - nI b by rw [nI_sb (by omega)]; exact nI_lt (a := 3) (by omega) (by omega))]
        exact hE
      · exact hE
    · rw [if_pos (show nI n ≤ v 0 11 by rw [h11]; exact nI_le (by omega) (by omega))]
      exact hE
  | succ d ih =>
    intro k fuel v hk hf hX h11 hb
    obtain ⟨m, rfl⟩ : ∃ m, fuel = m + 1 := ⟨fuel - 1, by omega⟩
    have hn := hX.1
    have hE := figE h11 (by omega) lo hi (nI (nv t k 0 b))
    by_cases h1 : b + k < n
    · have em : min (d + 1) (n - (b + k)) = min d (n - (b + (k + 1))) + 1 := by omega
      rw [em, f_X11_figures_18_s, hX.2.1, if_neg (show ¬ nI n ≤ v 0 11 by rw [h11]; exact nI_ge h1 (by omega)), h11, hX.at h1, Option.bind_some, pr_isIn, zl]
      rw [h11] at hE
      show (if isDi (t (b + k)) = true then _ else _) = figR lo hi ((if isDi (t (b + k)) = true then run isDi t (min d (n - (b + (k + 1)))) (b + k + 1) else b + k) - b) b (nI (nv t ((if isDi (t (b + k)) = true then run isDi t (min d (n - (b + (k + 1)))) (b + k + 1) else b + k) - b) 0 b)) (z_up v 0 11 (nI (if isDi (t (b + k)) = true then run isDi t (min d (n - (b + (k + 1)))) (b + k + 1) else b + k)))
      by_cases h2 : isDi (t (b + k)) = true
      · rw [if_pos h2, if_pos h2, if_neg (show ¬ (3 : Int32) < nI (b + k) - nI b by rw [nI_sb (by omega)]; exact nI_nlt (a := 3) (by omega) (by omega)), Option.bind_some, zl, zl, ads48, (dg_e h2).2, show (10 : Int32) * nI (nv t k 0 b) = nI (10 * nv t k 0 b) from pu_mul 10 _, nI_add, ← nv_s, nI_1]
        have := ih (k + 1) m (z_up v 0 11 (nI (b + (k + 1)))) (by omega) (by omega) (hX.up _ (by decide)) (by rw [zupe]) (by omega)
        rw [zup2] at this
        exact this
      · rw [if_neg h2, if_neg h2, show b + k - b = k by omega, zup1 v 0 11 _ h11]
        exact hE
    · rw [show min (d + 1) (n - (b + k)) = 0 by omega]
      show _ = figR lo hi (b + k - b) b (nI (nv t (b + k - b) 0 b)) (z_up v 0 11 (nI (b + k)))
      rw [show b + k - b = k by omega, zup1 v 0 11 _ h11, f_X11_figures_18_s, hX.2.1, if_pos (show nI n ≤ v 0 11 by rw [h11]; exact nI_le (by omega) (by omega))]
      exact hE
theorem pr_figures {t : Nat → Int32} {n p : Nat} {v : zU} (hX : TXr v t n) (hp : p ≤ n) (h11 : v 0 11 = nI p) (h12 : v 0 12 = -1) (lo hi : Int32) : f_X11_figures lo hi v = figR lo hi (run isDi t (min 4 (n - skp t (n - p) p)) (skp t (n - p) p) - skp t (n - p) p) (skp t (n - p) p) (nI (nv t (run isDi t (min 4 (n - skp t (n - p) p)) (skp t (n - p) p) - skp t (n - p) p) 0 (skp t (n - p) p))) (z_up v 0 11 (nI (run isDi t (min 4 (n - skp t (n - p) p)) (skp t (n - p) p)))) := by
  have hs := skp_le t (n - p) p
  rw [f_X11_figures_e, if_pos h12, pr_place hX hp h11, z_b2s]
  generalize skp t (n - p) p = b at hs
  have := pr_fig18 (t := t) (n := n) (b := b) lo hi 4 0 5000 (z_up v 0 11 (nI b)) rfl (by decide) (hX.up _ (by decide)) (by rw [zupe, Nat.add_zero]) (by omega)
  rw [zup2] at this
  exact this
