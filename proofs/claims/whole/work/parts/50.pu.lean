/-! PURE, 1: numbers, loops, the wheel's cells and the reference's row -/
theorem pu_in {k N : Nat} (h : k < N) (hN : N < 2 ^ 31) : z_in (nI k) N = true := by
  unfold z_in
  rw [Bool.and_eq_true, decide_eq_true_eq, decide_eq_true_eq, nI_clamp (Nat.lt_trans h hN)]
  exact ⟨nI_pos (Nat.lt_trans h hN), h⟩
theorem pu_mul (a b : Nat) : nI a * nI b = nI (a * b) := (Int32.ofNat_mul a b).symm
theorem pu_sub {a b : Nat} (h : b ≤ a) : nI a - nI b = nI (a - b) := by
  obtain ⟨c, rfl⟩ := Nat.exists_eq_add_of_le h
  rw [Nat.add_sub_cancel_left, ← nI_add, Int32.add_comm, Int32.add_sub_cancel]
theorem pu_lit (n : Nat) : (OfNat.ofNat n : Int32) = nI n := rfl
theorem pu_m1 {k : Nat} (h : k < 2 ^ 31) : nI k ≠ -1 := by
  intro e
  have := nI_toInt h
  rw [e] at this
  have e2 : (-1 : Int32).toInt = -1 := by decide
  omega
/-- a fold over 0 .. n-1 -/
def zfo {σ : Type} (g : Nat → σ → σ) : Nat → σ → σ
  | 0, s => s
  | n + 1, s => g n (zfo g n s)
theorem zfo_ext {σ : Type} {g g' : Nat → σ → σ} {s : σ} : ∀ n, (∀ k, k < n → g k (zfo g' k s) = g' k (zfo g' k s)) → zfo g n s = zfo g' n s
  | 0, _ => rfl
  | n + 1, h => by
    show g n (zfo g n s) = g' n (zfo g' n s)
    rw [zfo_ext n (fun k hk => h k (by omega)), h n (by omega)]
theorem zfo_inv {σ : Type} {g : Nat → σ → σ} {s : σ} (I : Nat → σ → Prop) (h0 : I 0 s) : ∀ n, (∀ k s, k < n → I k s → I (k + 1) (g k s)) → I n (zfo g n s)
  | 0, _ => h0
  | n + 1, h => h n _ (by omega) (zfo_inv I h0 n (fun k s hk => h k s (by omega)))
/-- a loop of N rounds, by an invariant -/
theorem pu_loopI {σ β : Type} (F : Nat → σ → Int32 → Option β) (N : Nat) (g : Nat → σ → σ) (K : σ → Option β) (I : Nat → σ → Prop) {s : σ} (hI : I 0 s)
    (hs : ∀ n k s, k < N → I k s → F (n + 1) s (nI k) = F n (g k s) (nI (k + 1)) ∧ I (k + 1) (g k s))
    (he : ∀ n s, I N s → F (n + 1) s (nI N) = K s) (fuel : Nat) (hf : N < fuel) : F fuel s 0 = K (zfo g N s) ∧ I N (zfo g N s) := by
  have hi : ∀ k, k ≤ N → I k (zfo g k s) := fun k hk => zfo_inv I hI k (fun j s hj hs0 => (hs 0 j s (by omega) hs0).2)
  have hm : ∀ d k fuel, k + d = N → d < fuel → F fuel (zfo g k s) (nI k) = K (zfo g N s) := by
    intro d
    induction d with
    | zero =>
      intro k fuel hk hfu
      obtain ⟨n, rfl⟩ : ∃ n, fuel = n + 1 := ⟨fuel - 1, by omega⟩
      obtain rfl : k = N := by omega
      exact he n _ (hi k (Nat.le_refl k))
    | succ d ih =>
      intro k fuel hk hfu
      obtain ⟨n, rfl⟩ : ∃ n, fuel = n + 1 := ⟨fuel - 1, by omega⟩
      rw [(hs n k _ (by omega) (hi k (by omega))).1]
      exact ih (k + 1) n (by omega) (by omega)
  exact ⟨hm N 0 fuel (by omega) hf, hi N (Nat.le_refl N)⟩
theorem pu_loop {σ β : Type} (F : Nat → σ → Int32 → Option β) (N : Nat) (g : Nat → σ → σ) (K : σ → Option β) {s : σ}
    (hs : ∀ n k s, k < N → F (n + 1) s (nI k) = F n (g k s) (nI (k + 1)))
    (he : ∀ n s, F (n + 1) s (nI N) = K s) (fuel : Nat) (hf : N < fuel) : F fuel s 0 = K (zfo g N s) :=
  (pu_loopI F N g K (fun _ _ => True) trivial (fun n k s hk _ => ⟨hs n k s hk, trivial⟩) (fun n s _ => he n s) fuel hf).1
/-- the first of k, k+1 .. (d of them) that P takes; -1 -/
def zfi (P : Nat → Bool) : Nat → Nat → Int32
  | 0, _ => -1
  | d + 1, k => if P k = true then nI k else zfi P d (k + 1)
theorem zfi_ext {P P' : Nat → Bool} : ∀ d k, (∀ j, k ≤ j → j < k + d → P j = P' j) → zfi P d k = zfi P' d k
  | 0, _, _ => rfl
  | d + 1, k, h => by
    unfold zfi
    rw [h k (Nat.le_refl k) (by omega), zfi_ext d (k + 1) (fun j h1 h2 => h j (by omega) (by omega))]
theorem zfi_spec (P : Nat → Bool) : ∀ d k, (zfi P d k = -1 ∧ ∀ j, k ≤ j → j < k + d → P j = false) ∨ ∃ j, k ≤ j ∧ j < k + d ∧ zfi P d k = nI j ∧ P j = true ∧ ∀ i, k ≤ i → i < j → P i = false
  | 0, k => Or.inl ⟨rfl, fun j h1 h2 => by omega⟩
  | d + 1, k => by
    unfold zfi
    by_cases h : P k = true
    · rw [if_pos h]
      exact Or.inr ⟨k, Nat.le_refl k, by omega, rfl, h, fun i h1 h2 => by omega⟩
    · rw [if_neg h]
      have hk : P k = false := by revert h; cases P k <;> simp
      rcases zfi_spec P d (k + 1) with ⟨h1, h2⟩ | ⟨j, h1, h2, h3, h4, h5⟩
      · refine Or.inl ⟨h1, fun j h3 h4 => ?_⟩
        by_cases e : j = k
        · rw [e]; exact hk
        · exact h2 j (by omega) (by omega)
      · refine Or.inr ⟨j, by omega, by omega, h3, h4, fun i h6 h7 => ?_⟩
        by_cases e : i = k
        · rw [e]; exact hk
        · exact h5 i (by omega) h7
theorem pu_find {β : Type} (F : Nat → Int32 → Option β) (N : Nat) (P : Nat → Bool) (K : Int32 → Option β)
    (hs : ∀ n k, k < N → F (n + 1) (nI k) = if P k = true then K (nI k) else F n (nI (k + 1)))
    (he : ∀ n, F (n + 1) (nI N) = K (-1)) (fuel : Nat) (hf : N < fuel) : F fuel 0 = K (zfi P N 0) := by
  have hm : ∀ d k fuel, k + d = N → d < fuel → F fuel (nI k) = K (zfi P d k) := by
    intro d
    induction d with
    | zero =>
      intro k fuel hk hfu
      obtain ⟨n, rfl⟩ : ∃ n, fuel = n + 1 := ⟨fuel - 1, by omega⟩
      obtain rfl : k = N := by omega
      exact he n
    | succ d ih =>
      intro k fuel hk hfu
      obtain ⟨n, rfl⟩ : ∃ n, fuel = n + 1 := ⟨fuel - 1, by omega⟩
      rw [hs n k (by omega), ih (k + 1) n (by omega) (by omega)]
      show _ = K (if P k = true then nI k else zfi P d (k + 1))
      by_cases h : P k = true
      · rw [if_pos h, if_pos h]
      · rw [if_neg h, if_neg h]
  exact hm N 0 fuel (by omega) hf
/-- which of the wheel's cells (region behind w, index) the reference's row has at k -/
def kap (k : Nat) : Option (Nat × Nat) :=
  if k < 13 then [none, none, none, some (0, 8), some (0, 14), some (0, 10), some (0, 11), some (0, 12), some (0, 13), some (0, 15), some (0, 9), none, some (0, 16)].getD k none
  else if k < 17 then some (7, k - 13) else if k < 25 then some (6, k - 17) else if k < 57 then some (1 + (k - 25) % 4, (k - 25) / 4) else if k < 65 then some (5, k - 57) else none
theorem kap_lt {k : Nat} {q : Nat × Nat} (h : kap k = some q) : k < 65 := by
  by_cases h1 : k < 65
  · exact h1
  · unfold kap at h
    rw [if_neg (by omega), if_neg (by omega), if_neg (by omega), if_neg (by omega), if_neg h1] at h
    cases h
theorem kap_inj0 : ∀ k, k < 65 → ∀ k', k' < 65 → kap k = kap k' → kap k = none ∨ k = k' := by decide +kernel
theorem kap_inj {k k' : Nat} {q : Nat × Nat} (h : kap k = some q) (h' : kap k' = some q) : k = k' := by
  rcases kap_inj0 k (kap_lt h) k' (kap_lt h') (h.trans h'.symm) with h0 | h0
  · rw [h] at h0; cases h0
  · exact h0
theorem kap_o0 : ∀ k, k < 65 → ∀ q, q ∈ kap k → q.1 < 8 := by decide +kernel
theorem kap_o {k : Nat} {q : Nat × Nat} (h : kap k = some q) : q.1 < 8 := kap_o0 k (kap_lt h) q h
/-- the wheel at w holds what the row v holds -/
def RW (u : zU) (w : Nat) (v : Nat → Int32) : Prop := ∀ k o i, kap k = some (o, i) → u (w + o) i = v k
theorem RW.up {u : zU} {w : Nat} {v : Nat → Int32} (h : RW u w v) {k o i : Nat} (hk : kap k = some (o, i)) (x : Int32) : RW (z_up u (w + o) i x) w (upd v k x) := by
  intro k' o' i' hk'
  unfold z_up upd
  by_cases e : k' = k
  · subst e
    rw [hk] at hk'
    cases hk'
    rw [if_pos rfl, if_pos rfl, if_pos rfl]
  · rw [if_neg e]
    by_cases e1 : w + o' = w + o
    · rw [if_pos e1]
      have e1 : o' = o := by omega
      subst e1
      by_cases e2 : i' = i
      · subst e2
        exact absurd (kap_inj hk' hk) e
      · rw [if_neg e2]
        exact h k' o' i' hk'
    · rw [if_neg e1]
      exact h k' o' i' hk'
theorem RW.fr {u u' : zU} {w : Nat} {v : Nat → Int32} (h : RW u w v) (hf : ∀ r, w ≤ r → r < w + 8 → u' r = u r) : RW u' w v := by
  intro k o i hk
  have := kap_o hk
  rw [hf (w + o) (by omega) (by dsimp only at this; omega)]
  exact h k o i hk
theorem RW.ex {u : zU} {w : Nat} {v v' : Nat → Int32} (h : RW u w v) (hf : ∀ k, 3 ≤ k → k < 65 → k ≠ 11 → v' k = v k) : RW u w v' := fun k o i hk => (h k o i hk).trans (hf k (by match k, hk with | k + 3, _ => omega) (kap_lt hk) (fun e => by subst e; cases hk)).symm
theorem kap_1 : ∀ i, i < 8 → kap (25 + 4 * i) = some (1, i) ∧ kap (26 + 4 * i) = some (2, i) ∧ kap (27 + 4 * i) = some (3, i) ∧ kap (28 + 4 * i) = some (4, i) ∧ kap (57 + i) = some (5, i) ∧ kap (17 + i) = some (6, i) := by decide +kernel
theorem kap_7 : ∀ i, i < 4 → kap (13 + i) = some (7, i) := by decide +kernel
theorem RW.pl {u : zU} {w : Nat} {v : Nat → Int32} (h : RW u w v) {i : Nat} (hi : i < 8) : u (w + 1) i = v (25 + 4 * i) := h _ _ _ (kap_1 i hi).1
theorem RW.we {u : zU} {w : Nat} {v : Nat → Int32} (h : RW u w v) {i : Nat} (hi : i < 8) : u (w + 2) i = v (26 + 4 * i) := h _ _ _ (kap_1 i hi).2.1
theorem RW.pu {u : zU} {w : Nat} {v : Nat → Int32} (h : RW u w v) {i : Nat} (hi : i < 8) : u (w + 3) i = v (27 + 4 * i) := h _ _ _ (kap_1 i hi).2.2.1
theorem RW.si {u : zU} {w : Nat} {v : Nat → Int32} (h : RW u w v) {i : Nat} (hi : i < 8) : u (w + 4) i = v (28 + 4 * i) := h _ _ _ (kap_1 i hi).2.2.2.1
theorem RW.ro {u : zU} {w : Nat} {v : Nat → Int32} (h : RW u w v) {i : Nat} (hi : i < 8) : u (w + 5) i = v (57 + i) := h _ _ _ (kap_1 i hi).2.2.2.2.1
theorem RW.bo {u : zU} {w : Nat} {v : Nat → Int32} (h : RW u w v) {i : Nat} (hi : i < 8) : u (w + 6) i = v (17 + i) := h _ _ _ (kap_1 i hi).2.2.2.2.2
theorem RW.te {u : zU} {w : Nat} {v : Nat → Int32} (h : RW u w v) {i : Nat} (hi : i < 4) : u (w + 7) i = v (13 + i) := h _ _ _ (kap_7 i hi)
theorem RW.s8 {u : zU} {w : Nat} {v : Nat → Int32} (h : RW u w v) : u w 8 = v 3 := h 3 0 8 rfl
theorem RW.s9 {u : zU} {w : Nat} {v : Nat → Int32} (h : RW u w v) : u w 9 = v 10 := h 10 0 9 rfl
theorem RW.s10 {u : zU} {w : Nat} {v : Nat → Int32} (h : RW u w v) : u w 10 = v 5 := h 5 0 10 rfl
theorem RW.s11 {u : zU} {w : Nat} {v : Nat → Int32} (h : RW u w v) : u w 11 = v 6 := h 6 0 11 rfl
theorem RW.s12 {u : zU} {w : Nat} {v : Nat → Int32} (h : RW u w v) : u w 12 = v 7 := h 7 0 12 rfl
theorem RW.s13 {u : zU} {w : Nat} {v : Nat → Int32} (h : RW u w v) : u w 13 = v 8 := h 8 0 13 rfl
theorem RW.s14 {u : zU} {w : Nat} {v : Nat → Int32} (h : RW u w v) : u w 14 = v 4 := h 4 0 14 rfl
theorem RW.s15 {u : zU} {w : Nat} {v : Nat → Int32} (h : RW u w v) : u w 15 = v 9 := h 9 0 15 rfl
theorem RW.s16 {u : zU} {w : Nat} {v : Nat → Int32} (h : RW u w v) : u w 16 = v 12 := h 12 0 16 rfl
theorem RW.u8 {u : zU} {w : Nat} {v : Nat → Int32} (h : RW u w v) (x : Int32) : RW (z_up u w 8 x) w (upd v 3 x) := h.up (k := 3) (o := 0) (i := 8) rfl x
theorem RW.u9 {u : zU} {w : Nat} {v : Nat → Int32} (h : RW u w v) (x : Int32) : RW (z_up u w 9 x) w (upd v 10 x) := h.up (k := 10) (o := 0) (i := 9) rfl x
theorem RW.u10 {u : zU} {w : Nat} {v : Nat → Int32} (h : RW u w v) (x : Int32) : RW (z_up u w 10 x) w (upd v 5 x) := h.up (k := 5) (o := 0) (i := 10) rfl x
theorem RW.u11 {u : zU} {w : Nat} {v : Nat → Int32} (h : RW u w v) (x : Int32) : RW (z_up u w 11 x) w (upd v 6 x) := h.up (k := 6) (o := 0) (i := 11) rfl x
theorem RW.u12 {u : zU} {w : Nat} {v : Nat → Int32} (h : RW u w v) (x : Int32) : RW (z_up u w 12 x) w (upd v 7 x) := h.up (k := 7) (o := 0) (i := 12) rfl x
theorem RW.u13 {u : zU} {w : Nat} {v : Nat → Int32} (h : RW u w v) (x : Int32) : RW (z_up u w 13 x) w (upd v 8 x) := h.up (k := 8) (o := 0) (i := 13) rfl x
theorem RW.u14 {u : zU} {w : Nat} {v : Nat → Int32} (h : RW u w v) (x : Int32) : RW (z_up u w 14 x) w (upd v 4 x) := h.up (k := 4) (o := 0) (i := 14) rfl x
theorem RW.u15 {u : zU} {w : Nat} {v : Nat → Int32} (h : RW u w v) (x : Int32) : RW (z_up u w 15 x) w (upd v 9 x) := h.up (k := 9) (o := 0) (i := 15) rfl x
theorem RW.u16 {u : zU} {w : Nat} {v : Nat → Int32} (h : RW u w v) (x : Int32) : RW (z_up u w 16 x) w (upd v 12 x) := h.up (k := 12) (o := 0) (i := 16) rfl x
