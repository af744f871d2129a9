/-! PURE, 4: one who waits: the place in the row, to get in -/
/-- a is the place of x in the row -/
def atR (v : Nat → Int32) (x a : Nat) : Prop := a < wN v ∧ v (57 + a) = nI x ∧ ∀ i, i < a → v (57 + i) ≠ nI x
theorem IV.at {v : Nat → Int32} (h : IV v) {x : Nat} (hx : x < rN v) (hp : v (25 + 4 * x) = -1) : ∃ a, atR v x a := by
  obtain ⟨i, i1, i2⟩ := h.2.2.2.2 x hx hp
  exact ⟨i, i1, i2, fun j hj e => by have := h.2.2.2.1 j i (by omega) i1 (e.trans i2.symm); omega⟩
theorem IV.nat {v : Nat → Int32} (h : IV v) {x : Nat} (hx : x < rN v) (hp : v (25 + 4 * x) ≠ -1) {i : Nat} (hi : i < wN v) : v (57 + i) ≠ nI x := by
  intro e
  have h8 := h.n8
  obtain ⟨y, y1, y2, y3⟩ := h.2.2.1 i hi
  rw [y2, nI_eq (by omega) (by omega)] at e
  subst e
  exact hp y3
theorem zfi_at {P : Nat → Bool} {a : Nat} : ∀ d k, k ≤ a → a < k + d → P a = true → (∀ i, k ≤ i → i < a → P i = false) → zfi P d k = nI a
  | 0, k, h1, h2, _, _ => by omega
  | d + 1, k, h1, h2, h3, h4 => by
    unfold zfi
    by_cases e : k = a
    · subst e; rw [if_pos h3]
    · rw [if_neg (by rw [h4 k (Nat.le_refl k) (by omega)]; decide)]
      exact zfi_at d (k + 1) (by omega) (by omega) h3 (fun i hi => h4 i (by omega))
theorem zfi_no {P : Nat → Bool} : ∀ d k, (∀ i, k ≤ i → i < k + d → P i = false) → zfi P d k = -1
  | 0, k, _ => rfl
  | d + 1, k, h => by
    unfold zfi
    rw [if_neg (by rw [h k (Nat.le_refl k) (by omega)]; decide)]
    exact zfi_no d (k + 1) (fun i h1 h2 => h i (by omega) (by omega))
theorem pc_queuedAt0 {u : zU} {w : Nat} {v : Nat → Int32} (hR : RW u w v) (hV : IV v) (L : Nat → Nat) (x : Int32) : f_X9_queuedAt w L x u = some (zfi (fun i => decide (v (57 + i) = x)) (wN v) 0) := by
  have h8 := hV.n8
  have hw := hV.w8
  rw [f_X9_queuedAt_e]
  refine pu_find (fun n y => f_X9_queuedAt_2 w L n x y u) (wN v) (fun i => decide (v (57 + i) = x)) some (fun n k hk => ?_) (fun n => ?_) 5000 (by omega)
  · show f_X9_queuedAt_2 w L (n + 1) x (nI k) u = _
    rw [f_X9_queuedAt_2_s, hR.s9, hV.w, if_neg (nI_ge hk (by omega)), if_pos (pu_in (by omega) (by decide))]
    simp only [z_let, nI_1, nI_clamp (show k < 2 ^ 31 by omega), hR.ro (show k < 8 by omega), decide_eq_true_eq]
  · show f_X9_queuedAt_2 w L (n + 1) x (nI (wN v)) u = _
    rw [f_X9_queuedAt_2_s, hR.s9, hV.w, if_pos (nI_le (Nat.le_refl _) (by omega))]
theorem pc_queuedAt {u : zU} {w : Nat} {v : Nat → Int32} (hR : RW u w v) (hV : IV v) (L : Nat → Nat) {x a : Nat} (ha : atR v x a) : f_X9_queuedAt w L (nI x) u = some (nI a) := by
  rw [pc_queuedAt0 hR hV]
  rw [zfi_at (wN v) 0 (Nat.zero_le a) (by have := ha.1; omega) (decide_eq_true ha.2.1) (fun i _ hi => decide_eq_false (ha.2.2 i hi))]
theorem pc_queuedNo {u : zU} {w : Nat} {v : Nat → Int32} (hR : RW u w v) (hV : IV v) (L : Nat → Nat) {x : Nat} (hx : x < rN v) (hp : v (25 + 4 * x) ≠ -1) : f_X9_queuedAt w L (nI x) u = some (-1) := by
  rw [pc_queuedAt0 hR hV]
  rw [zfi_no (wN v) 0 (fun i _ hi => decide_eq_false (hV.nat hx hp (by omega)))]
theorem pr_aheadOf {u : zU} (hV : IV (u 1)) {x a : Nat} (ha : atR (u 1) x a) : f_X11_aheadOf (nI x) u = some (nI a) := by
  have h8 := hV.n8
  have hw := hV.w8
  obtain ⟨h1, h2, h3⟩ := ha
  have hm : ∀ d k fuel, k + d = a → d < fuel → f_X11_aheadOf_2 fuel (nI x) (nI k) u = some (nI a) := by
    intro d
    induction d with
    | zero =>
      intro k fuel hk hfu
      obtain ⟨n, rfl⟩ : ∃ n, fuel = n + 1 := ⟨fuel - 1, by omega⟩
      obtain rfl : k = a := by omega
      rw [f_X11_aheadOf_2_s, pu_l57, if_pos (pu_in (by omega) (by decide))]
      simp only [z_let, nI_clamp (show 57 + k < 2 ^ 31 by omega), h2, if_true]
    | succ d ih =>
      intro k fuel hk hfu
      obtain ⟨n, rfl⟩ : ∃ n, fuel = n + 1 := ⟨fuel - 1, by omega⟩
      rw [f_X11_aheadOf_2_s, pu_l57, if_pos (pu_in (by omega) (by decide))]
      simp only [z_let, nI_clamp (show 57 + k < 2 ^ 31 by omega), nI_1, if_neg (h3 k (by omega))]
      exact ih (k + 1) n (by omega) (by omega)
  rw [f_X11_aheadOf_e]
  exact hm a 0 5000 (by omega) (by omega)
/-- the row with those from a on moved up, as far as b -/
def shp (v : Nat → Int32) (a b : Nat) : Nat → Int32 := fun k => if 57 + a ≤ k ∧ k < 57 + b then v (k + 1) else v k
theorem shp_0 (v : Nat → Int32) (a : Nat) : shp v a a = v := by
  funext k
  unfold shp
  rw [if_neg (by omega)]
theorem shp_s (v : Nat → Int32) {a b : Nat} (h : a ≤ b) : upd (shp v a b) (57 + b) (v (57 + b + 1)) = shp v a (b + 1) := by
  funext k
  unfold upd shp
  by_cases e : k = 57 + b
  · subst e; rw [if_pos rfl, if_pos (by omega)]
  · rw [if_neg e]
    by_cases e2 : 57 + a ≤ k ∧ k < 57 + b
    · rw [if_pos e2, if_pos (by omega)]
    · rw [if_neg e2, if_neg (by omega)]
theorem shp_o {v : Nat → Int32} {a b k : Nat} (h : k < 57 + a ∨ 57 + b ≤ k) : shp v a b k = v k := by unfold shp; rw [if_neg (by omega)]
theorem shp_i {v : Nat → Int32} {a b k : Nat} (h : 57 + a ≤ k) (h2 : k < 57 + b) : shp v a b k = v (k + 1) := by unfold shp; rw [if_pos ⟨h, h2⟩]
/-- x, who waits at the place a, gets into the cradle c -/
def sG (v : Nat → Int32) (x a : Nat) (c : Int32) : Nat → Int32 := upd (upd (shp v a (wN v - 1)) 10 (nI (wN v - 1))) (25 + 4 * x) c
theorem pr_gets {u : zU} (hV : IV (u 1)) {x a : Nat} (hx : x < rN (u 1)) (ha : atR (u 1) x a) (c : Int32) : f_X11_gets (nI x) c u = some (zst u 1 (sG (u 1) x a c)) := by
  have h8 := hV.n8
  have hw := hV.w8
  have h1 := ha.1
  rw [f_X11_gets_e, pr_aheadOf hV ha]
  show f_X11_gets_6 5000 (nI x) c (nI a) u = _
  have hm : ∀ d k fuel, k + d + 1 = wN (u 1) → a ≤ k → d < fuel → f_X11_gets_6 fuel (nI x) c (nI k) (zst u 1 (shp (u 1) a k)) = some (zst u 1 (sG (u 1) x a c)) := by
    intro d
    induction d with
    | zero =>
      intro k fuel hk hak hfu
      obtain ⟨n, rfl⟩ : ∃ n, fuel = n + 1 := ⟨fuel - 1, by omega⟩
      have e10 : shp (u 1) a k 10 = nI (wN (u 1)) := by rw [shp_o (by omega)]; exact hV.w
      rw [f_X11_gets_6_s, zst_e, e10, nI_1, if_pos (nI_le (by omega) (by omega))]
      simp only [z_let, z_up_st, zst_zst, zst_e]
      rw [pr_put0 _ (by omega)]
      simp only [Option.bind_some, zst_zst, zst_e]
      rw [show wN (u 1) = k + 1 by omega, nI_pred]
      unfold sG
      rw [show wN (u 1) - 1 = k by omega]
    | succ d ih =>
      intro k fuel hk hak hfu
      obtain ⟨n, rfl⟩ : ∃ n, fuel = n + 1 := ⟨fuel - 1, by omega⟩
      have e10 : shp (u 1) a k 10 = nI (wN (u 1)) := by rw [shp_o (by omega)]; exact hV.w
      rw [f_X11_gets_6_s, zst_e, e10, nI_1, if_neg (nI_ge (by omega) (by omega)), pu_l57, nI_1, if_pos (pu_in (by omega) (by decide))]
      simp only [z_let]
      rw [if_pos (pu_in (by omega) (by decide))]
      simp only [z_let, z_up_st, zst_zst, zst_e, nI_clamp (show 57 + k + 1 < 2 ^ 31 by omega), nI_clamp (show 57 + k < 2 ^ 31 by omega)]
      rw [shp_o (k := 57 + k + 1) (by omega), shp_s _ hak]
      exact ih (k + 1) n (by omega) (by omega) (by omega)
  have h2 := hm (wN (u 1) - 1 - a) a 5000 (by omega) (Nat.le_refl a) (by omega)
  rw [shp_0] at h2
  rw [← h2]
  congr 1
  funext r
  unfold zst
  split
  · subst_vars; rfl
  · rfl
theorem pc_getIn {u : zU} {w : Nat} {v : Nat → Int32} (hR : RW u w v) (hV : IV v) (L : Nat → Nat) {x a : Nat} (hx : x < rN v) (ha : atR v x a) (c : Int32) : ∃ u', f_X9_getIn w L (nI x) c u = some u' ∧ RW u' w (sG v x a c) ∧ Fw w u u' ∧ (∀ j, 17 ≤ j → u' w j = u w j) := by
  have h8 := hV.n8
  have hw := hV.w8
  have h1 := ha.1
  rw [f_X9_getIn_e, pc_queuedAt hR hV L ha]
  simp only [Option.bind_some, if_neg (pu_m1 (show a < 2 ^ 31 by omega))]
  have hm : ∀ d k fuel u2, k + d + 1 = wN v → a ≤ k → d < fuel → RW u2 w (shp v a k) → Fw w u u2 → (∀ j, 17 ≤ j → u2 w j = u w j) → ∃ u', f_X9_getIn_15 w L fuel (nI x) c (nI k) u2 = some u' ∧ RW u' w (sG v x a c) ∧ Fw w u u' ∧ (∀ j, 17 ≤ j → u' w j = u w j) := by
    intro d
    induction d with
    | zero =>
      intro k fuel u2 hk hak hfu hR2 hF hj
      obtain ⟨n, rfl⟩ : ∃ n, fuel = n + 1 := ⟨fuel - 1, by omega⟩
      have e10 : u2 w 9 = nI (k + 1) := by rw [hR2.s9, shp_o (by omega), hV.w]; congr 1; omega
      rw [f_X9_getIn_15_s, e10, nI_1, if_pos (nI_le (Nat.le_refl _) (by omega)), pu_and7 x (by omega)]
      simp only [z_let]
      rw [if_pos (pu_in (by omega) (by decide))]
      simp only [nI_pred, nI_clamp (show x < 2 ^ 31 by omega)]
      refine ⟨_, rfl, ?_, (hF.up (by omega)).up (by omega), fun j hj2 => ?_⟩
      · have h2 := (hR2.u9 (nI k)).up (kap_1 x (by omega)).1 c
        unfold sG
        rw [show wN v - 1 = k by omega]
        exact h2
      · rw [z_up_ne (by omega), z_up_eq, upd_ne (by omega)]; exact hj j hj2
    | succ d ih =>
      intro k fuel u2 hk hak hfu hR2 hF hj
      obtain ⟨n, rfl⟩ : ∃ n, fuel = n + 1 := ⟨fuel - 1, by omega⟩
      have e10 : u2 w 9 = nI (wN v) := by rw [hR2.s9, shp_o (by omega), hV.w]
      rw [f_X9_getIn_15_s, e10, nI_1, if_neg (nI_ge (by omega) (by omega)), if_pos (pu_in (by omega) (by decide))]
      simp only [z_let]
      rw [if_pos (pu_in (by omega) (by decide))]
      simp only [nI_clamp (show k + 1 < 2 ^ 31 by omega), nI_clamp (show k < 2 ^ 31 by omega), hR2.ro (show k + 1 < 8 by omega)]
      have h2 := hR2.up (kap_1 k (by omega)).2.2.2.2.1 (shp v a k (57 + (k + 1)))
      rw [shp_o (k := 57 + (k + 1)) (by omega)] at h2 ⊢
      have h3 : RW (z_up u2 (w + 5) k (v (57 + (k + 1)))) w (shp v a (k + 1)) := by rw [← shp_s v hak]; exact h2
      exact ih (k + 1) n _ (by omega) (by omega) (by omega) h3 (hF.up (by omega)) (fun j hj2 => by rw [z_up_ne (by omega)]; exact hj j hj2)
  exact hm (wN v - 1 - a) a 5000 u (by omega) (Nat.le_refl a) (by omega) (by rw [shp_0]; exact hR) Fw.rf (fun _ _ => rfl)
theorem sG_o {v : Nat → Int32} {x a k : Nat} {c : Int32} (h1 : k ≠ 25 + 4 * x) (h3 : k ≠ 10) (h2 : k < 57 + a ∨ 57 + (wN v - 1) ≤ k) : sG v x a c k = v k := by
  unfold sG; rw [upd_ne h1, upd_ne h3, shp_o h2]
theorem sG_p {v : Nat → Int32} {x a : Nat} {c : Int32} : sG v x a c (25 + 4 * x) = c := by unfold sG; rw [upd_eq]
theorem sG_w {v : Nat → Int32} {x a : Nat} {c : Int32} : sG v x a c 10 = nI (wN v - 1) := by unfold sG; rw [upd_ne (by omega), upd_eq]
theorem IV.g {v : Nat → Int32} (h : IV v) {x a c : Nat} (hx : x < rN v) (ha : atR v x a) (hc : c < 8) : IV (sG v x a (nI c)) ∧ rN (sG v x a (nI c)) = rN v ∧ wN (sG v x a (nI c)) + 1 = wN v := by
  have h8 := h.n8
  have hw := h.w8
  obtain ⟨c1, c2, c3⟩ := h.2.2
  obtain ⟨a1, a2, a3⟩ := ha
  have hpx : v (25 + 4 * x) = -1 := by
    obtain ⟨y, y1, y2, y3⟩ := c1 a a1
    rw [y2, nI_eq (by omega) (by omega)] at a2
    subst a2
    exact y3
  have e3 : sG v x a (nI c) 3 = v 3 := sG_o (by omega) (by omega) (by omega)
  have e4 : sG v x a (nI c) 4 = v 4 := sG_o (by omega) (by omega) (by omega)
  have eN := rN_of e3
  have eT := tP_of e4
  have eW : wN (sG v x a (nI c)) = wN v - 1 := wN_of sG_w (by omega)
  have hpl : ∀ r, r < rN v → r ≠ x → sG v x a (nI c) (25 + 4 * r) = v (25 + 4 * r) := fun r hr hn => sG_o (by omega) (by omega) (by omega)
  have hr1 : ∀ i, i < a → sG v x a (nI c) (57 + i) = v (57 + i) := fun i hi => sG_o (by omega) (by omega) (by omega)
  have hr2 : ∀ i, a ≤ i → i < wN v - 1 → sG v x a (nI c) (57 + i) = v (57 + (i + 1)) := fun i hi h2 => by
    unfold sG
    rw [upd_ne (by omega), upd_ne (by omega), shp_i (by omega) (by omega)]
    rfl
  have hne : ∀ i, i < wN v → i ≠ a → v (57 + i) ≠ nI x := fun i hi hn e => hn (c2 i a hi a1 (e.trans a2.symm))
  refine ⟨⟨⟨⟨?_, by rw [eN]; exact h8⟩, ⟨?_, by rw [eT]; exact h.t8⟩, ⟨?_, ?_⟩, ?_⟩, h.2.1.ex (fun k h1 h2 h3 => sG_o (h3 x (by omega)) h2 (by omega)), ?_, ?_, ?_⟩, eN, by omega⟩
  · rw [e3, eN]; exact h.n
  · rw [e4, eT]; exact h.t
  · rw [eW]; exact sG_w
  · rw [eW, eN]
    have h2 := bcnt_up (fun r => decide (sG v x a (nI c) (25 + 4 * r) = -1)) (fun r => decide (v (25 + 4 * r) = -1)) (x := x) (rN v) (fun r hr hn => by rw [hpl r hr hn]) hx (by rw [sG_p]; exact decide_eq_false (pu_m1 (by omega))) (decide_eq_true hpx)
    rw [← h.wc] at h2
    omega
  · intro r hr
    rw [eN] at hr
    by_cases e : r = x
    · subst e; exact Or.inr ⟨c, hc, sG_p⟩
    · rw [hpl r hr e]; exact h.pl hr
  · intro i hi
    rw [eW] at hi
    rw [eN]
    by_cases e : i < a
    · obtain ⟨y, y1, y2, y3⟩ := c1 i (by omega)
      have hyx : y ≠ x := fun e2 => hne i (by omega) (by omega) (by rw [← e2]; exact y2)
      exact ⟨y, y1, by rw [hr1 i e]; exact y2, by rw [hpl y y1 hyx]; exact y3⟩
    · obtain ⟨y, y1, y2, y3⟩ := c1 (i + 1) (by omega)
      have hyx : y ≠ x := fun e2 => hne (i + 1) (by omega) (by omega) (by rw [← e2]; exact y2)
      exact ⟨y, y1, by rw [hr2 i (by omega) hi]; exact y2, by rw [hpl y y1 hyx]; exact y3⟩
  · intro i j hi hj hij
    rw [eW] at hi hj
    have hg : ∀ i, i < wN v - 1 → sG v x a (nI c) (57 + i) = v (57 + (if i < a then i else i + 1)) := fun i hi => by
      by_cases e : i < a
      · rw [if_pos e]; exact hr1 i e
      · rw [if_neg e]; exact hr2 i (by omega) hi
    rw [hg i hi, hg j hj] at hij
    have := c2 _ _ (by split <;> omega) (by split <;> omega) hij
    split at this <;> split at this <;> omega
  · intro y hy hp
    rw [eN] at hy
    rw [eW]
    have hyx : y ≠ x := fun e => by subst e; rw [sG_p] at hp; exact pu_m1 (by omega) hp
    rw [hpl y hy hyx] at hp
    obtain ⟨i, i1, i2⟩ := c3 y hy hp
    have hia : i ≠ a := fun e => by subst e; rw [a2, nI_eq (by omega) (by omega)] at i2; exact hyx i2.symm
    by_cases e : i < a
    · exact ⟨i, by omega, by rw [hr1 i e]; exact i2⟩
    · refine ⟨i - 1, by omega, ?_⟩
      rw [hr2 (i - 1) (by omega) (by omega), show i - 1 + 1 = i by omega]
      exact i2
