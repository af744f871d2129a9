/-! PURE, 60: the sum of a law's lines -/
/-- where the nodes of the j-th line begin -/
def frm (E : Nat → Nat) (j : Nat) : Nat := if j = 0 then 0 else E (j - 1)
theorem frm_s (E : Nat → Nat) (j : Nat) : frm E (j + 1) = E j := by unfold frm; rw [if_neg (by omega), Nat.add_sub_cancel]
/-- the j-th line holds -/
def hld (K A B : Nat → Int32) (E : Nat → Nat) (o : Option (Nat → Int32)) (j : Nat) : Bool := decide (E j = frm E j) || (match o with | none => false | some F => decide (EV K A B F (frm E j) (E j) (E j - 1) ≠ 0))
def lnT (A1 A2 K A B : Nat → Int32) (E : Nat → Nat) (wh : Nat) (o : Option (Nat → Int32)) : Nat → Int32
  | 0 => 0
  | j + 1 => if A1 j = nI wh ∧ hld K A B E o j = true then lnT A1 A2 K A B E wh o j + A2 j else lnT A1 A2 K A B E wh o j
/-- the rows of a law's lines are well made -/
def LWf (A3 K A B : Nat → Int32) (E : Nat → Nat) (m M : Nat) : Prop := (∀ j, j < m → A3 j = nI (E j) ∧ frm E j ≤ E j ∧ E j ≤ M) ∧ ∀ j, j < m → ∀ i, frm E j ≤ i → i < E j → NV (K i) (A i) (B i) (frm E j) i
theorem pc_totL {L : Nat → Nat} {fa wh m M : Nat} {E : Nat → Nat} {F : Nat → Int32} (h8 : L 8 = m) (h9 : L 9 = M) (hm : m ≤ 12) (hM : M ≤ 400) (hd : ∀ j, 0 < j → j < 7 → L j ≠ L 7) (hfa : fa ≠ L 7) {u0 : zU} (hL : LWf (u0 (L 3)) (u0 (L 4)) (u0 (L 5)) (u0 (L 6)) E m M) (hF : ∀ j, j < 9 → u0 fa j = F j) (b : Bool) : ∀ d j fuel u, j + d = m → d < fuel → (∀ r, r ≠ L 7 → u r = u0 r) → ∃ u', f_X4_total_9 L fa fuel (nI wh) b (lnT (u0 (L 1)) (u0 (L 2)) (u0 (L 4)) (u0 (L 5)) (u0 (L 6)) E wh (if b = true then some F else none) j) (nI (frm E j)) (nI j) u = some (lnT (u0 (L 1)) (u0 (L 2)) (u0 (L 4)) (u0 (L 5)) (u0 (L 6)) E wh (if b = true then some F else none) m, u') ∧ ∀ r, r ≠ L 7 → u' r = u0 r := by
  intro d
  induction d with
  | zero =>
    intro j fuel u hj hf hu
    obtain ⟨g, rfl⟩ : ∃ g, fuel = g + 1 := ⟨fuel - 1, by omega⟩
    obtain rfl : j = m := by omega
    refine ⟨u, ?_, hu⟩
    rw [f_X4_total_9_s, h8, if_pos (nI_le (Nat.le_refl _) (by omega))]
  | succ d ih =>
    intro j fuel u hj hf hu
    obtain ⟨g, rfl⟩ : ∃ g, fuel = g + 1 := ⟨fuel - 1, by omega⟩
    have hin : z_in (nI j) (L 8) = true := pu_in (by omega) (by omega)
    obtain ⟨e3, l1, l2⟩ := hL.1 j (by omega)
    have hnv := hL.2 j (by omega)
    have u1 := hu _ (hd 1 (by decide) (by decide))
    have u2 := hu _ (hd 2 (by decide) (by decide))
    have u3 := hu _ (hd 3 (by decide) (by decide))
    have u4 := hu _ (hd 4 (by decide) (by decide))
    have u5 := hu _ (hd 5 (by decide) (by decide))
    have u6 := hu _ (hd 6 (by decide) (by decide))
    have ufa := hu _ hfa
    have hs : lnT (u0 (L 1)) (u0 (L 2)) (u0 (L 4)) (u0 (L 5)) (u0 (L 6)) E wh (if b = true then some F else none) (j + 1) = (if u0 (L 1) j = nI wh ∧ hld (u0 (L 4)) (u0 (L 5)) (u0 (L 6)) E (if b = true then some F else none) j = true then lnT (u0 (L 1)) (u0 (L 2)) (u0 (L 4)) (u0 (L 5)) (u0 (L 6)) E wh (if b = true then some F else none) j + u0 (L 2) j else lnT (u0 (L 1)) (u0 (L 2)) (u0 (L 4)) (u0 (L 5)) (u0 (L 6)) E wh (if b = true then some F else none) j) := rfl
    have ihh := fun u hu => ih (j + 1) g u (by omega) (by omega) hu
    rw [frm_s, hs] at ihh
    clear hs ih
    have h8' : L 8 = m := h8
    rw [f_X4_total_9_s, h8, if_neg (nI_ge (show j < m by omega) (by omega)), ← h8]
    simp only [hin, if_true, zl, nI_clamp (show j < 2 ^ 31 by omega), u1, u2, u3, e3, nI_1]
    rw [h8']
    generalize lnT (u0 (L 1)) (u0 (L 2)) (u0 (L 4)) (u0 (L 5)) (u0 (L 6)) E wh (if b = true then some F else none) j = acc at ihh ⊢
    by_cases hbare : E j = frm E j
    · have hh : hld (u0 (L 4)) (u0 (L 5)) (u0 (L 6)) E (if b = true then some F else none) j = true := by unfold hld; rw [decide_eq_true hbare, Bool.true_or]
      rw [if_pos (show nI (E j) = nI (frm E j) by rw [hbare])]
      by_cases ha : u0 (L 1) j = nI wh
      · rw [if_pos ha]
        rw [if_pos ⟨ha, hh⟩] at ihh
        exact ihh u hu
      · rw [if_neg ha]
        rw [if_neg (fun e => ha e.1)] at ihh
        exact ihh u hu
    · rw [if_neg (show ¬ nI (E j) = nI (frm E j) from fun e => hbare ((nI_eq (by omega) (by omega)).mp e))]
      by_cases ha : u0 (L 1) j = nI wh
      · rw [if_pos ha]
        cases b with
        | false =>
          rw [if_neg Bool.false_ne_true]
          have hh : ¬ (u0 (L 1) j = nI wh ∧ hld (u0 (L 4)) (u0 (L 5)) (u0 (L 6)) E (if false = true then some F else none) j = true) := by
            rintro ⟨-, e⟩
            unfold hld at e
            rw [decide_eq_false hbare, if_neg Bool.false_ne_true] at e
            cases e
          rw [if_neg hh] at ihh
          exact ihh u hu
        | true =>
          rw [if_pos rfl]
          obtain ⟨u', e1, e2⟩ := pc_holds (L := L) (fa := fa) (n0 := frm E j) (k := E j) (u := u) (by omega) (by omega) (by omega) hfa (hd 4 (by decide) (by decide)) (hd 5 (by decide) (by decide)) (hd 6 (by decide) (by decide)) (fun i a c => by rw [u4, u5, u6]; exact hnv i a c)
          have hu' : ∀ r, r ≠ L 7 → u' r = u0 r := fun r hr => (e2 r hr).trans (hu r hr)
          have eE : EV (u (L 4)) (u (L 5)) (u (L 6)) (u fa) (frm E j) (E j) (E j - 1) = EV (u0 (L 4)) (u0 (L 5)) (u0 (L 6)) F (frm E j) (E j) (E j - 1) := by
            rw [u4, u5, u6, ufa]
            exact EV_ext hF (by omega) (Nat.le_refl _) (fun i a c => ⟨hnv i a c, rfl, rfl, rfl⟩) (by omega) (by omega)
          rw [e1, z_b2s, eE, hu' _ (hd 2 (by decide) (by decide)), hu' _ (hd 3 (by decide) (by decide)), e3]
          by_cases hv : EV (u0 (L 4)) (u0 (L 5)) (u0 (L 6)) F (frm E j) (E j) (E j - 1) ≠ 0
          · have hh : hld (u0 (L 4)) (u0 (L 5)) (u0 (L 6)) E (if true = true then some F else none) j = true := by
              unfold hld
              rw [if_pos rfl]
              show (_ || decide (EV (u0 (L 4)) (u0 (L 5)) (u0 (L 6)) F (frm E j) (E j) (E j - 1) ≠ 0)) = true
              rw [decide_eq_true hv, Bool.or_true]
            rw [if_pos ⟨ha, hh⟩] at ihh
            rw [decide_eq_true hv, if_pos rfl]
            exact ihh u' hu'
          · have hh : ¬ (u0 (L 1) j = nI wh ∧ hld (u0 (L 4)) (u0 (L 5)) (u0 (L 6)) E (if true = true then some F else none) j = true) := by
              rintro ⟨-, e⟩
              unfold hld at e
              rw [if_pos rfl, decide_eq_false hbare] at e
              have e : (false || decide (EV (u0 (L 4)) (u0 (L 5)) (u0 (L 6)) F (frm E j) (E j) (E j - 1) ≠ 0)) = true := e
              rw [decide_eq_false hv] at e
              cases e
            rw [if_neg hh] at ihh
            rw [decide_eq_false hv, if_neg Bool.false_ne_true]
            exact ihh u' hu'
      · rw [if_neg ha]
        rw [if_neg (fun e => ha e.1)] at ihh
        exact ihh u hu
theorem CL_of {L : Nat → Nat} {m M : Nat} {E : Nat → Nat} {u : zU} (h8 : L 8 = m) (h9 : L 9 = M) (hm : m ≤ 12) (hM : M ≤ 400) (hd : ∀ j, 0 < j → j < 7 → L j ≠ L 7) (hL : LWf (u (L 3)) (u (L 4)) (u (L 5)) (u (L 6)) E m M) : CL u L (fun wh o => lnT (u (L 1)) (u (L 2)) (u (L 4)) (u (L 5)) (u (L 6)) E wh o m) := by
  intro u2 fa F wh h1 h2 h3 h4
  have k1 := h1 1 (by decide) (by decide)
  have k2 := h1 2 (by decide) (by decide)
  have k3 := h1 3 (by decide) (by decide)
  have k4 := h1 4 (by decide) (by decide)
  have k5 := h1 5 (by decide) (by decide)
  have k6 := h1 6 (by decide) (by decide)
  have key := fun b => pc_totL (L := L) (fa := fa) (wh := wh) (F := F) h8 h9 hm hM hd h2 (u0 := u2) (by rw [k3, k4, k5, k6]; exact hL) h3 b m 0 5000 u2 (by omega) (by omega) (fun _ _ => rfl)
  rw [k1, k2, k4, k5, k6] at key
  refine ⟨?_, ?_⟩
  · obtain ⟨u3, e1, e2⟩ := key true
    refine ⟨u3, ?_, e2, fun j a b => e2 _ (hd j a b)⟩
    rw [f_X4_total_e]
    exact e1
  · obtain ⟨u3, e1, e2⟩ := key false
    refine ⟨u3, ?_, e2, fun j a b => e2 _ (hd j a b)⟩
    rw [f_X4_total_e]
    exact e1
/-- the sum of lines of at most 30 each is small -/
theorem lnT_sm {A1 A2 K A B : Nat → Int32} {E : Nat → Nat} {wh : Nat} {o : Option (Nat → Int32)} : ∀ m, m ≤ 12 → (∀ j, j < m → sm (A2 j) 30) → sm (lnT A1 A2 K A B E wh o m) (30 * m)
  | 0, _, _ => ⟨0, by omega, rfl⟩
  | m + 1, hm, h => by
    obtain ⟨s, s1, s2⟩ := lnT_sm (A1 := A1) (A2 := A2) (K := K) (A := A) (B := B) (E := E) (wh := wh) (o := o) m (by omega) (fun j hj => h j (by omega))
    obtain ⟨a, a1, a2⟩ := h m (by omega)
    show sm (if _ then lnT A1 A2 K A B E wh o m + A2 m else lnT A1 A2 K A B E wh o m) _
    split
    · exact ⟨s + a, by omega, by rw [s2, a2, nI_add]⟩
    · exact ⟨s, by omega, s2⟩
