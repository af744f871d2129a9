/-! PURE, 13: what holds between the class's world and the reference's, between calls -/
/-- the journal at j tells what the row v tells -/
def JN (u : zU) (j : Nat) (v : Nat → Int32) : Prop := ∃ k nx, k ≤ 60 ∧ nx < 60 ∧ u j 2 = nI k ∧ u j 1 = nI nx ∧ v 11 = nI k ∧ ∀ ago col, ago < k → col < 4 → u (j + 1) ((nx + 59 - ago) % 60 * 4 + col) = v (65 + 4 * ago + col)
/-- where a law's cells may lie -/
def okL (L : Nat → Nat) : Prop := (∀ j, 0 < j → j < 8 → 222 ≤ L j ∨ ∃ k, k < 15 ∧ L j = wr k + 10) ∧ (222 ≤ L 0 ∨ ∃ k, k < 15 ∧ L 0 = wr k + 9) ∧ L 0 ≠ L 7
/-- the law L' keeps its rows when the results of L are written -/
def Ldj (L' L : Nat → Nat) : Prop := L' = L ∨ ∀ j, j < 7 → L' j ≠ L 7
/-- no cradle holds more than two -/
def CAP (v : Nat → Int32) : Prop := (∀ c, c < 8 → bcnt (Pin v (nI c)) (rN v) ≤ 2) ∧ ∀ r, r < rN v → 1 ≤ v (26 + 4 * r)
theorem CAP.ex {v v' : Nat → Int32} (h : CAP v) (h1 : rN v' = rN v) (h2 : ∀ r, r < rN v → v' (25 + 4 * r) = v (25 + 4 * r) ∧ v' (26 + 4 * r) = v (26 + 4 * r)) : CAP v' := ⟨fun c hc => by
  rw [h1, bcnt_ext (P' := Pin v (nI c)) _ (fun k hk => by unfold Pin; rw [(h2 k hk).1])]; exact h.1 c hc, fun r hr => by rw [h1] at hr; rw [(h2 r hr).2]; exact h.2 r hr⟩
/-- the s-th Keep holds what the row v holds (but for the law) -/
def KP (u : zU) (s : Nat) (v : Nat → Int32) : Prop := RW u (wr (2 + s)) v ∧ IV v ∧ JN u (52 + 14 * s) v ∧ u (40 + 14 * s) 2 = v 0 ∧ sm (v 0) 12 ∧ CAP v
def TPe (u r : zU) : Prop := ∃ n, (n ≤ 400 ∧ u 28 1 = 14 ∧ u 29 1 = 12) ∧ u 1 1 = nI n ∧ r 0 8 = nI n ∧ ∀ k, k < 400 → u 2 k = r 5 k ∧ sm (r 5 k) 255
/-- the b-th of the acts that can be undone, as the reference keeps it -/
def slc (r : zU) (b : Nat) : Nat → Int32 := fun j => r 4 (305 * b + j)
def ACt (q : zq) (u r : zU) : Prop := ∃ a x, a ≤ 12 ∧ x < 12 ∧ u 38 2 = nI a ∧ r 0 6 = nI a ∧ u 38 1 = nI x ∧ ∀ b, b < a → KP u ((x + 12 - a + b) % 12) (slc r b) ∧ q (2 + (x + 12 - a + b) % 12) = q 0 ∧ slc r b 1 = r 1 1 ∧ slc r b 2 = r 1 2
def PIc (q : zq) (u r : zU) (T T' : zT) : Prop := (u 0 9 = 0 ∧ r 0 3 = 0) ∨ (u 0 9 = 1 ∧ r 0 3 = 1 ∧ KP u 12 (r 2) ∧ CL u (q 14) T' ∧ RLw (r 2) T' ∧ TB T' ∧ u (q 14 0) 0 = r 2 1 ∧ okL (q 14) ∧ Ldj (q 14) (q 0) ∧ (q 14 = q 0 → T' = T))
def RRb (q : zq) (u r : zU) (T T' : zT) : Prop := (STP u 6 (q 0) T (r 1) ∧ TB T ∧ u (q 0 0) 0 = r 1 1 ∧ okL (q 0) ∧ CAP (r 1)) ∧ JN u 36 (r 1) ∧ (u 0 10 = r 1 0 ∧ sm (r 1 0) 12) ∧ TPe u r ∧ u 0 11 = r 0 12 ∧ ACt q u r ∧ PIc q u r T T'
def RR (q : zq) (u r : zU) : Prop := ∃ T T', RRb q u r T T'
theorem wr_ap : ∀ i, i < 15 → ∀ k, k < 15 → ¬ (wr i ≤ wr k + 10 ∧ wr k + 10 < wr i + 9) ∧ ¬ (wr i ≤ wr k + 9 ∧ wr k + 9 < wr i + 9) ∧ wr i + 9 < 222 := by decide +kernel
theorem wr_ap2 : ∀ k, k < 15 → ∀ s, s < 13 → wr k + 10 ≠ 52 + 14 * s ∧ wr k + 10 ≠ 53 + 14 * s ∧ wr k + 10 ≠ 40 + 14 * s := by decide +kernel
theorem wr_of {w : Nat} (hw : w = 6 ∨ w = 17) : ∃ i, i < 15 ∧ w = wr i := by
  rcases hw with e | e
  · exact ⟨0, by decide, e⟩
  · exact ⟨1, by decide, e⟩
theorem okL.ap {L : Nat → Nat} (h : okL L) {i : Nat} (hi : i < 15) : Lap (wr i) L := by
  intro j h0 h8 hc
  rcases h.1 j h0 h8 with h1 | ⟨k, hk, h1⟩
  · have := (wr_ap i hi i hi).2.2; omega
  · rw [h1] at hc; exact (wr_ap i hi k hk).1 hc
/-- what the methods over the wheels 6 and 17 leave of the class's world -/
def FrX (u u' : zU) : Prop := ∀ r, r < 222 → ¬ (6 ≤ r ∧ r < 15) → ¬ (17 ≤ r ∧ r < 26) → (∀ k, k < 15 → r ≠ wr k + 10) → u' r = u r
theorem FrX.rf {u : zU} : FrX u u := fun _ _ _ _ _ => rfl
theorem FrX.tr {u u1 u2 : zU} (h : FrX u u1) (k : FrX u1 u2) : FrX u u2 := fun r a b c d => (k r a b c d).trans (h r a b c d)
theorem Fr.x {w : Nat} {L : Nat → Nat} {u u' : zU} (h : Fr w L u u') (hw : w = 6 ∨ w = 17) (hL : okL L) : FrX u u' := by
  intro r h1 h2 h3 h4
  refine h r (by omega) (fun e => ?_)
  rcases hL.1 7 (by decide) (by decide) with h5 | ⟨k, hk, h5⟩
  · omega
  · exact h4 k hk (e.trans h5)
theorem Fw.x {w : Nat} {u u' : zU} (h : Fw w u u') (hw : w = 6 ∨ w = 17) : FrX u u' := fun r h1 h2 h3 h4 => h r (by omega)
theorem wr_n10 : ∀ k, k < 15 → wr k + 10 ≠ 0 ∧ wr k + 10 ≠ 1 ∧ wr k + 10 ≠ 2 ∧ wr k + 10 ≠ 36 ∧ wr k + 10 ≠ 37 ∧ wr k + 10 ≠ 38 := by decide +kernel
theorem FrX.lo {u u' : zU} (h : FrX u u') {r : Nat} (hr : r = 0 ∨ r = 1 ∨ r = 2 ∨ r = 36 ∨ r = 37 ∨ r = 38) : u' r = u r := by
  refine h r (by omega) (by omega) (by omega) (fun k hk e => ?_)
  have := wr_n10 k hk
  omega
theorem wr_k : ∀ s, s < 13 → wr (2 + s) = 41 + 14 * s := by decide +kernel
theorem wr_k10 : ∀ k, k < 15 → ∀ s, s < 13 → ∀ j, j < 8 → wr k + 10 ≠ 41 + 14 * s + j := by decide +kernel
theorem FrX.kp {u u' : zU} (h : FrX u u') {s : Nat} (hs : s < 13) {r : Nat} (hr : r = 40 + 14 * s ∨ r = 52 + 14 * s ∨ r = 53 + 14 * s ∨ (41 + 14 * s ≤ r ∧ r < 41 + 14 * s + 8)) : u' r = u r := by
  refine h r (by omega) (by omega) (by omega) (fun k hk e => ?_)
  have h1 := wr_ap2 k hk s hs
  rcases hr with h2 | h2 | h2 | h2
  · omega
  · omega
  · omega
  · exact wr_k10 k hk s hs (r - (41 + 14 * s)) (by omega) (by omega)
theorem JN.fr {u u' : zU} {j : Nat} {v v' : Nat → Int32} (h : JN u j v) (h1 : u' j = u j) (h2 : u' (j + 1) = u (j + 1)) (h3 : v' 11 = v 11) (h4 : ∀ k, 65 ≤ k → k < 305 → v' k = v k) : JN u' j v' := by
  obtain ⟨k, nx, a1, a2, a3, a4, a5, a6⟩ := h
  exact ⟨k, nx, a1, a2, by rw [h1]; exact a3, by rw [h1]; exact a4, by rw [h3]; exact a5, fun ago col b1 b2 => by rw [h2, h4 _ (by omega) (by omega)]; exact a6 ago col b1 b2⟩
theorem KP.fr {u u' : zU} {s : Nat} {v : Nat → Int32} (h : KP u s v) (hF : FrX u u') (hs : s < 13) : KP u' s v := by
  obtain ⟨h1, h2, h3, h4, h5⟩ := h
  refine ⟨h1.fr (fun r a b => ?_), h2, h3.fr ?_ ?_ rfl (fun _ _ _ => rfl), ?_, h5⟩
  · rw [wr_k s hs] at a b; exact hF.kp hs (by omega)
  · exact hF.kp hs (by omega)
  · exact hF.kp hs (by omega)
  · rw [hF.kp hs (Or.inl rfl)]; exact h4
theorem wr_n28b : ∀ k, k < 15 → 28 ≠ wr k + 10 ∧ 29 ≠ wr k + 10 := by decide +kernel
theorem TPe.fr {u u' r r' : zU} (h : TPe u r) (hF : FrX u u') (h1 : r' 0 8 = r 0 8) (h2 : r' 5 = r 5) : TPe u' r' := by
  obtain ⟨n, ⟨a1, c1, c2⟩, a2, a3, a4⟩ := h
  refine ⟨n, ⟨a1, by rw [hF 28 (by omega) (by omega) (by omega) (fun k hk => (wr_n28b k hk).1)]; exact c1, by rw [hF 29 (by omega) (by omega) (by omega) (fun k hk => (wr_n28b k hk).2)]; exact c2⟩, by rw [hF.lo (by omega)]; exact a2, by rw [h1]; exact a3, fun k hk => ?_⟩
  rw [hF.lo (by omega), h2]; exact a4 k hk
theorem ACt.fr {q : zq} {u u' r r' : zU} (h : ACt q u r) (hF : FrX u u') (h1 : r' 0 6 = r 0 6) (h2 : r' 4 = r 4) (h3 : r' 1 1 = r 1 1) (h4 : r' 1 2 = r 1 2) : ACt q u' r' := by
  obtain ⟨a, x, a1, a2, a3, a4, a5, a6⟩ := h
  refine ⟨a, x, a1, a2, by rw [hF.lo (by omega)]; exact a3, by rw [h1]; exact a4, by rw [hF.lo (by omega)]; exact a5, fun b hb => ?_⟩
  obtain ⟨b1, b2, b3, b4⟩ := a6 b hb
  have e : slc r' b = slc r b := by funext j; unfold slc; rw [h2]
  rw [e, h3, h4]
  exact ⟨b1.fr hF (by have := Nat.mod_lt (x + 12 - a + b) (show 0 < 12 by decide); omega), b2, b3, b4⟩
/-- a law's rows (and its count of lines) are kept -/
def Lkp (L : Nat → Nat) (u u' : zU) : Prop := ∀ j, j < 7 → u' (L j) = u (L j)
theorem okL.kp {L L0 : Nat → Nat} (h : okL L) (hd : Ldj L L0) {w : Nat} {u u' : zU} (hw : w = 6 ∨ w = 17) (hF : Fr w L0 u u') (hne : L ≠ L0) : Lkp L u u' := by
  rcases hd with e | hd
  · exact absurd e hne
  · intro j hj
    refine hF _ (fun hc => ?_) (hd j hj)
    have hi := wr_of hw
    obtain ⟨i, hi, rfl⟩ := hi
    by_cases e : j = 0
    · subst e
      rcases h.2.1 with h1 | ⟨k, hk, h1⟩
      · have := (wr_ap i hi i hi).2.2; omega
      · rw [h1] at hc; exact (wr_ap i hi k hk).2.1 hc
    · rcases h.1 j (by omega) (by omega) with h1 | ⟨k, hk, h1⟩
      · have := (wr_ap i hi i hi).2.2; omega
      · rw [h1] at hc; exact (wr_ap i hi k hk).1 hc
/-- the object of a wheel's own law is kept -/
theorem okL.k0 {L : Nat → Nat} (h : okL L) {w : Nat} {u u' : zU} (hw : w = 6 ∨ w = 17) (hF : Fr w L u u') : u' (L 0) = u (L 0) := by
  refine hF _ (fun hc => ?_) h.2.2
  have hi := wr_of hw
  obtain ⟨i, hi, rfl⟩ := hi
  rcases h.2.1 with h1 | ⟨k, hk, h1⟩
  · have := (wr_ap i hi i hi).2.2; omega
  · rw [h1] at hc; exact (wr_ap i hi k hk).2.1 hc
theorem PIc.fr {q : zq} {u u' r r' : zU} {T T' : zT} (h : PIc q u r T T') {w : Nat} (hw : w = 6 ∨ w = 17) (hL : okL (q 0)) (hF : Fr w (q 0) u u') (hC : CL u' (q 0) T) (h1 : r' 0 3 = r 0 3) (h2 : r' 2 = r 2) : PIc q u' r' T T' := by
  have hX := hF.x hw hL
  have e0 : u' 0 = u 0 := hX.lo (by omega)
  rcases h with ⟨a, b⟩ | ⟨a1, a2, a3, a4, a5, a6, a7, a8, a9, a10⟩
  · exact Or.inl ⟨by rw [e0]; exact a, by rw [h1]; exact b⟩
  · refine Or.inr ⟨by rw [e0]; exact a1, by rw [h1]; exact a2, by rw [h2]; exact a3.fr hX (by decide), ?_, by rw [h2]; exact a5, a6, ?_, a8, a9, a10⟩
    · by_cases e : q 14 = q 0
      · rw [e, a10 e]; exact hC
      · exact a4.fr (fun j b1 b2 => a8.kp a9 hw hF e j b2)
    · rw [h2]
      by_cases e : q 14 = q 0
      · rw [e, hL.k0 hw hF, ← e]; exact a7
      · rw [a8.kp a9 hw hF e 0 (by decide)]; exact a7
/-- a call that leaves the reference's row, and of the class's world all but the spare wheel and the law's results -/
theorem RRb.tmp {q : zq} {u u' r r' : zU} {T T' : zT} (h : RRb q u r T T') {w : Nat} (hw : w = 6 ∨ w = 17) (hF : Fr w (q 0) u u') (hR : RW u' 6 (r 1)) (hC : CL u' (q 0) T) (h1 : r' 1 = r 1) (h2 : r' 2 = r 2) (h4 : r' 4 = r 4) (h5 : r' 5 = r 5) (h03 : r' 0 3 = r 0 3) (h06 : r' 0 6 = r 0 6) (h08 : r' 0 8 = r 0 8) (h012 : r' 0 12 = r 0 12) : RRb q u' r' T T' := by
  obtain ⟨⟨⟨a1, a2, a3, a4⟩, a5, a6, a7, a8⟩, b, c, d, e, f, g⟩ := h
  have hX := hF.x hw a7
  have e0 : u' 0 = u 0 := hX.lo (by omega)
  refine ⟨⟨⟨by rw [h1]; exact hR, by rw [h1]; exact a2, hC, by rw [h1]; exact a4⟩, a5, by rw [a7.k0 hw hF, h1]; exact a6, a7, by rw [h1]; exact a8⟩, b.fr (hX.lo (by omega)) (hX.lo (by omega)) (by rw [h1]) (fun _ _ _ => by rw [h1]), ⟨by rw [e0, h1]; exact c.1, by rw [h1]; exact c.2⟩, d.fr hX h08 h5, by rw [e0, h012]; exact e, f.fr hX h06 h4 (by rw [h1]) (by rw [h1]), g.fr hw a7 hF hC h03 h2⟩
/-- the same, where the class's world stays -/
theorem RR.r {q : zq} {u r r' : zU} (h : RR q u r) (hF : RF r r') (h1 : r' 1 = r 1) : RR q u r' := by
  obtain ⟨T, T', h⟩ := h
  obtain ⟨f2, f3, f4, f5, f00, f03, f06, f08, f012⟩ := hF
  exact ⟨T, T', h.tmp (w := 17) (Or.inr rfl) Fr.rf h.1.1.1 h.1.1.2.2.1 h1 f2 f4 f5 f03 f06 f08 f012⟩
/-- the thrown word is set -/
theorem RR.t {q : zq} {u r : zU} (h : RR q u r) (x : Int32) : RR q u (z_up r 0 0 x) := by
  obtain ⟨T, T', h⟩ := h
  exact ⟨T, T', h.tmp (w := 17) (Or.inr rfl) Fr.rf h.1.1.1 h.1.1.2.2.1 rfl rfl rfl rfl rfl rfl rfl rfl⟩
theorem RR.iv {q : zq} {u r : zU} (h : RR q u r) : IV (r 1) := by obtain ⟨T, T', h⟩ := h; exact h.1.1.2.1
theorem RR.cap {q : zq} {u r : zU} (h : RR q u r) : CAP (r 1) := by obtain ⟨T, T', h⟩ := h; exact h.1.2.2.2.2
theorem RR.rw {q : zq} {u r : zU} (h : RR q u r) : RW u 6 (r 1) := by obtain ⟨T, T', h⟩ := h; exact h.1.1.1
/-- how the answers of a call that may throw are held against each other -/
def ANS (cs : List (String × Int32)) (o : String ⊕ Int32) (x t : Int32) : Prop := match o with
  | .inr y => t = 0 ∧ y = x
  | .inl E => (E, t) ∈ cs
