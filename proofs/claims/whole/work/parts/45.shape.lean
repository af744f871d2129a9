/-! the shape behind the constructors -/
def q00 : zq := fun i j => if j = 0 then wr i + 9 else if j < 8 then wr i + 10 else 0
theorem g0_law : ∀ i, i < 15 → (gI_X10_init (wr i)).2.2 19 = some (wr i + 9) := by decide +kernel
theorem zg00 : zg gI_X10_init q00 = gI_X10_init := by
  funext r
  unfold zg
  cases h : wi r with
  | none => rfl
  | some i =>
    obtain ⟨rfl, hi⟩ := wr_wi h
    refine Prod.ext rfl (Prod.ext rfl ?_)
    funext j
    show (if j = 19 then some (q00 i 0) else (gI_X10_init (wr i)).2.2 j) = _
    by_cases e : j = 19
    · subst e; rw [if_pos rfl, g0_law i hi]; rfl
    · rw [if_neg e]
def g0_k (r k n : Nat) : Bool := (gI_X10_init r).1 == k && (gI_X10_init r).2.1 == n
theorem g0_wh : ∀ i, i < 15 → (gI_X10_init (wr i)).1 = 12 ∧ (∀ j, j < 8 → (gI_X10_init (wr i)).2.2 j = some (wr i + (1 + j)) ∧ (gI_X10_init (wr i + (1 + j))).1 = 1 ∧ (gI_X10_init (wr i + (1 + j))).2.1 = zWl j) := by decide +kernel
theorem g0_lw : ∀ i, i < 15 → (gI_X10_init (wr i + 9)).1 = 8 ∧ (∀ j, j < 8 → 0 < j → (gI_X10_init (wr i + 9)).2.2 j = some (wr i + 10)) ∧ (gI_X10_init (wr i + 10)).1 = 1 ∧ (gI_X10_init (wr i + 10)).2.1 = 0 := by decide +kernel
theorem g0_kp : ∀ k, k < 13 → (gI_X10_init (40 + 14 * k)).1 = 7 ∧ (gI_X10_init (40 + 14 * k)).2.2 0 = some (wr (2 + k)) ∧ (gI_X10_init (40 + 14 * k)).2.2 1 = some (52 + 14 * k) ∧ (gI_X10_init (52 + 14 * k)).1 = 6 ∧ (gI_X10_init (52 + 14 * k)).2.2 0 = some (52 + 14 * k + 1) ∧ (gI_X10_init (52 + 14 * k + 1)).1 = 1 ∧ (gI_X10_init (52 + 14 * k + 1)).2.1 = 240 := by decide +kernel
theorem zLw00 {i : Nat} (hi : i < 15) : zLw gI_X10_init (q00 i) := by
  obtain ⟨h1, h2, h3, h4⟩ := g0_lw i hi
  refine ⟨h1, fun j hj0 hj => ?_⟩
  have e0 : q00 i 0 = wr i + 9 := rfl
  have ej : q00 i j = wr i + 10 := by unfold q00; rw [if_neg (by omega), if_pos hj]
  rw [e0, ej]
  refine ⟨h2 j hj hj0, h3, ?_⟩
  rw [h4]
  by_cases h : j < 4
  · rw [if_pos h]; rfl
  · rw [if_neg h]; rfl
theorem g0_st : ∀ r, r ∈ zStL → (gI_X10_init r).1 = (gS r).1 ∧ (gI_X10_init r).2.1 = (gS r).2.1 := by decide +kernel
theorem g0_sr : ∀ r, r ∈ zStL → ∀ j, j < 12 → (gI_X10_init r).2.2 j = (gS r).2.2 j := by decide +kernel
theorem arrV_ext (c : ClassId) (n : Nat) {f f' : Nat → Value} (h : ∀ j, j < n → f' j = f j) : arrV c n f' = arrV c n f := by
  unfold arrV
  congr 1
  apply Array.ext
  · simp
  · intro i h1 h2
    simp at h1
    simp [h i h1]
theorem z_at.ext {D : zD} {b : Nat} {q q' : zQ} {x : Nat → Int32} {a : Nat} {H : Heap} (h : z_at D b q x a H) (h1 : q'.1 = q.1) (h2 : q'.2.1 = q.2.1) (h3 : ∀ j, j < 12 → q'.2.2 j = q.2.2 j) (hb : q.1 = 3 → q.2.1 ≤ 12) (hc : ∀ k, q.1 = k + 4 → zNF k ≤ 12) : z_at D b q' x a H := by
  obtain ⟨k, n, rf⟩ := q
  obtain ⟨k', n', rf'⟩ := q'
  cases h1; cases h2
  match k, h, hb, hc with
  | 0, _, _, _ => exact trivial
  | 1, h, _, _ => exact h
  | 2, h, _, _ => exact h
  | 3, h, hb, _ =>
    show H[a]? = some (arrV _ _ _)
    rw [arrV_ext _ _ (fun j hj => by rw [h3 j (Nat.lt_of_lt_of_le hj (hb rfl))])]
    exact h
  | k + 4, h, _, hc =>
    refine t_OB.to h (fun j hj => ?_)
    have e := h3 j (Nat.lt_of_lt_of_le hj (hc k rfl))
    unfold z_V
    dsimp only at e ⊢
    rw [e]
def G00 : zG := fun r => if r ∈ zStL then gS r else gI_X10_init r
theorem G00_n {r : Nat} (h : r ∉ zStL) : G00 r = gI_X10_init r := if_neg h
theorem G00_1 (r : Nat) : (G00 r).1 = (gI_X10_init r).1 := by
  unfold G00
  by_cases h : r ∈ zStL
  · rw [if_pos h]; exact (g0_st r h).1.symm
  · rw [if_neg h]
theorem G00_2 (r : Nat) : (G00 r).2.1 = (gI_X10_init r).2.1 := by
  unfold G00
  by_cases h : r ∈ zStL
  · rw [if_pos h]; exact (g0_st r h).2.symm
  · rw [if_neg h]
theorem wr_st : ∀ i, i < 15 → wr i ∉ zStL ∧ (wr i + 9) ∉ zStL ∧ ∀ j, j < 8 → (wr i + (1 + j)) ∉ zStL := by decide +kernel
theorem kp_st : ∀ k, k < 13 → (40 + 14 * k) ∉ zStL ∧ (52 + 14 * k) ∉ zStL := by decide +kernel
theorem g0_jn : (gI_X10_init 36).1 = 6 ∧ (gI_X10_init 36).2.2 0 = some (36 + 1) ∧ (gI_X10_init (36 + 1)).1 = 1 ∧ (gI_X10_init (36 + 1)).2.1 = 240 := by decide +kernel
theorem zTop00 : zTop G00 q00 := by
  refine ⟨fun r hr => ?_, fun i hi => ?_, ?_, fun k hk => ?_⟩
  · rw [zg_n _ _ (wi_st r hr)]; exact if_pos hr
  · obtain ⟨h1, h2⟩ := g0_wh i hi
    obtain ⟨s1, s2, s3⟩ := wr_st i hi
    refine ⟨by rw [zg_1, G00_1]; exact h1, fun j hj => ?_, zg_r _ _ hi, ?_⟩
    · obtain ⟨a1, a2, a3⟩ := h2 j hj
      refine ⟨by rw [zg_3 _ _ _ (by omega), G00_n s1]; exact a1, by rw [zg_1, G00_1]; exact a2, by rw [zg_2, G00_2]; exact a3⟩
    · obtain ⟨l1, l2⟩ := zLw00 hi
      refine ⟨by rw [zg_1, G00_1]; exact l1, fun j hj0 hj => ?_⟩
      obtain ⟨a1, a2, a3⟩ := l2 j hj0 hj
      exact ⟨by rw [zg_3 _ _ _ (by omega), G00_n (r := q00 i 0) s2]; exact a1, by rw [zg_1, G00_1]; exact a2, by rw [zg_2, G00_2]; exact a3⟩
  · obtain ⟨h1, h2, h3, h4⟩ := g0_jn
    exact ⟨by rw [zg_1, G00_1]; exact h1, by rw [zg_3 _ _ _ (by decide), G00_n (by decide)]; exact h2, by rw [zg_1, G00_1]; exact h3, by rw [zg_2, G00_2]; exact h4⟩
  · obtain ⟨h1, h2, h3, h4, h5, h6, h7⟩ := g0_kp k hk
    obtain ⟨s1, s2⟩ := kp_st k hk
    exact ⟨by rw [zg_1, G00_1]; exact h1, by rw [zg_3 _ _ _ (by decide), G00_n s1]; exact h2, by rw [zg_3 _ _ _ (by decide), G00_n s1]; exact h3, by rw [zg_1, G00_1]; exact h4, by rw [zg_3 _ _ _ (by decide), G00_n s2]; exact h5, by rw [zg_1, G00_1]; exact h6, by rw [zg_2, G00_2]; exact h7⟩
theorem st_ok : ∀ r ∈ zStL, ((gI_X10_init r).1 = 3 → (gI_X10_init r).2.1 ≤ 12) ∧ ∀ k, k < 20 → (gI_X10_init r).1 = k + 4 → zNF k ≤ 12 := by decide +kernel
theorem st_k : ∀ r ∈ zStL, (gI_X10_init r).1 < 20 := by decide +kernel
theorem z_W00 {D : zD} {A : Nat → Prop} {b : Nat} {u : zU} {H : Heap} (h : z_W D A b gI_X10_init u H) : z_W D A b (zg G00 q00) u H := by
  intro r
  by_cases hr : r ∈ zStL
  · have e : zg G00 q00 r = gS r := by rw [zg_n _ _ (wi_st r hr)]; exact if_pos hr
    rw [e]
    refine ⟨(h r).1.ext (g0_st r hr).1.symm (g0_st r hr).2.symm (fun j hj => (g0_sr r hr j hj).symm) (st_ok r hr).1 (fun k hk => (st_ok r hr).2 k (by have := st_k r hr; omega) hk), fun hne => (h r).2 (by rw [(g0_st r hr).1]; exact hne)⟩
  · have e : zg G00 q00 r = gI_X10_init r := by
      rw [← congrFun zg00 r]
      unfold zg
      rw [G00_n hr]
    rw [e]
    exact h r
theorem gM_1 : ∀ r, r < 10 → (gI_X11_init r).1 = (gM r).1 ∧ (gI_X11_init r).2.1 = (gM r).2.1 ∧ ∀ j, j < 23 → (gI_X11_init r).2.2 j = (gM r).2.2 j := by decide +kernel
theorem z_WM {D : zD} {A : Nat → Prop} {b : Nat} {u : zU} {H : Heap} (h : z_W D A b gI_X11_init u H) : z_W D A b gM u H := by
  intro r
  by_cases hr : r < 10
  · obtain ⟨h1, h2, h3⟩ := gM_1 r hr
    by_cases h0 : r = 0
    · subst h0
      refine ⟨?_, fun hne => (h 0).2 (by rw [h1]; exact hne)⟩
      have q := (h 0).1
      refine t_OB.to q (fun j hj => ?_)
      have e := h3 j hj
      unfold z_V
      rw [← e]
    · refine ⟨?_, fun hne => (h r).2 (by rw [h1]; exact hne)⟩
      have q := (h r).1
      match r, hr, h0, q with
      | 1, _, _, q => exact q
      | 2, _, _, q => exact q
      | 3, _, _, q => exact q
      | 4, _, _, q => exact q
      | 5, _, _, q => exact q
      | 6, _, _, q => exact q
      | 7, _, _, q => exact q
      | 8, _, _, q => exact q
      | 9, _, _, q => exact q
  · have e : (gM r).1 = 0 := by
      match r, hr with
      | r + 10, _ => rfl
    refine ⟨?_, fun hne => absurd e hne⟩
    unfold z_at
    rw [e]
    exact trivial
