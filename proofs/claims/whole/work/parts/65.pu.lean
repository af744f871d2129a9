/-! PURE, 16: what stays when other parts of the worlds change; the tape; counts -/
theorem wr_n28 : ∀ k, k < 15 → 6 ≤ wr k ∧ ¬ (28 ≤ wr k + 9 ∧ wr k + 9 < 36) ∧ ¬ (28 ≤ wr k + 10 ∧ wr k + 10 < 36) ∧ (wr k + 8 < 28 ∨ 36 ≤ wr k) := by decide +kernel
theorem okL.hi {L : Nat → Nat} (h : okL L) {j : Nat} (hj : j < 8) : 6 ≤ L j ∧ ¬ (28 ≤ L j ∧ L j < 36) := by
  by_cases e : j = 0
  · subst e
    rcases h.2.1 with h1 | ⟨k, hk, h1⟩
    · omega
    · have := wr_n28 k hk; omega
  · rcases h.1 j (by omega) hj with h1 | ⟨k, hk, h1⟩
    · omega
    · have := wr_n28 k hk; omega
/-- what the readers and the tape may change of the class's world -/
def FrT (u u' : zU) : Prop := ∀ x, 6 ≤ x → ¬ (28 ≤ x ∧ x < 36) → u' x = u x
theorem FrT.w {u u' : zU} (h : FrT u u') {i : Nat} (hi : i < 15) {v : Nat → Int32} (hR : RW u (wr i) v) : RW u' (wr i) v := hR.fr (fun r h1 h2 => by have := wr_n28 i hi; exact h r (by omega) (by omega))
theorem FrT.cl {u u' : zU} (h : FrT u u') {L : Nat → Nat} (hL : okL L) {T : zT} (hC : CL u L T) : CL u' L T := hC.fr (fun j a b => by have := hL.hi (j := j) (by omega); exact h _ this.1 this.2)
theorem FrT.kp {u u' : zU} (h : FrT u u') {s : Nat} (hs : s < 13) {v : Nat → Int32} (hK : KP u s v) : KP u' s v := by
  obtain ⟨h1, h2, h3, h4, h5⟩ := hK
  refine ⟨h.w (i := 2 + s) (by omega) h1, h2, h3.fr ?_ ?_ rfl (fun _ _ _ => rfl), ?_, h5⟩
  · exact h _ (by omega) (by omega)
  · exact h _ (by omega) (by omega)
  · rw [h _ (by omega) (by omega)]; exact h4
theorem RRb.gen {q : zq} {u u' r r' : zU} {T T' : zT} (h : RRb q u r T T') (hF : FrT u u') (h9 : u' 0 9 = u 0 9) (h10 : u' 0 10 = u 0 10) (hW : u' 0 11 = r' 0 12) (hT : TPe u' r') (h1 : r' 1 = r 1) (h2 : r' 2 = r 2) (h4 : r' 4 = r 4) (h03 : r' 0 3 = r 0 3) (h06 : r' 0 6 = r 0 6) : RRb q u' r' T T' := by
  obtain ⟨⟨⟨a1, a2, a3, a4⟩, a5, a6, a7, a8⟩, b, c, d, e, f, g⟩ := h
  have k0 : ∀ L : Nat → Nat, okL L → u' (L 0) = u (L 0) := fun L hL => by have := hL.hi (j := 0) (by decide); exact hF _ this.1 this.2
  refine ⟨⟨⟨by rw [h1]; exact hF.w (i := 0) (by decide) a1, by rw [h1]; exact a2, hF.cl a7 a3, by rw [h1]; exact a4⟩, a5, by rw [k0 _ a7, h1]; exact a6, a7, by rw [h1]; exact a8⟩, b.fr (hF 36 (by omega) (by omega)) (hF 37 (by omega) (by omega)) (by rw [h1]) (fun _ _ _ => by rw [h1]), ⟨by rw [h10, h1]; exact c.1, by rw [h1]; exact c.2⟩, hT, hW, ?_, ?_⟩
  · obtain ⟨a, x, b1, b2, b3, b4, b5, b6⟩ := f
    refine ⟨a, x, b1, b2, by rw [hF 38 (by omega) (by omega)]; exact b3, by rw [h06]; exact b4, by rw [hF 38 (by omega) (by omega)]; exact b5, fun b hb => ?_⟩
    obtain ⟨c1, c2, c3, c4⟩ := b6 b hb
    have e : slc r' b = slc r b := by funext j; unfold slc; rw [h4]
    rw [e, h1]
    exact ⟨hF.kp (by have := Nat.mod_lt (x + 12 - a + b) (show 0 < 12 by decide); omega) c1, c2, c3, c4⟩
  · rcases g with ⟨a, b⟩ | ⟨a1, a2, a3, a4, a5, a6, a7, a8, a9, a10⟩
    · exact Or.inl ⟨by rw [h9]; exact a, by rw [h03]; exact b⟩
    · exact Or.inr ⟨by rw [h9]; exact a1, by rw [h03]; exact a2, by rw [h2]; exact hF.kp (by decide) a3, hF.cl a8 a4, by rw [h2]; exact a5, a6, by rw [k0 _ a8, h2]; exact a7, a8, a9, a10⟩
/-- the main wheel changes, and the reference's row with it -/
theorem RRb.wh {q : zq} {u u' r r' : zU} {T T' : zT} (h : RRb q u r T T') (hF : Fr 6 (q 0) u u') (hR : RW u' 6 (r' 1)) (hV : IV (r' 1)) (hC : CL u' (q 0) T) (hP : CAP (r' 1)) (he : ∀ j, j < 3 ∨ j = 11 ∨ 65 ≤ j → r' 1 j = r 1 j) (h2 : r' 2 = r 2) (h4 : r' 4 = r 4) (h5 : r' 5 = r 5) (h03 : r' 0 3 = r 0 3) (h06 : r' 0 6 = r 0 6) (h08 : r' 0 8 = r 0 8) (h012 : r' 0 12 = r 0 12) : RRb q u' r' T T' := by
  obtain ⟨⟨⟨a1, a2, a3, a4⟩, a5, a6, a7, a8⟩, b, c, d, e, f, g⟩ := h
  have hX := hF.x (Or.inl rfl) a7
  have e0 : u' 0 = u 0 := hX.lo (by omega)
  have hT : RLw (r' 1) T := a4.ex (he 1 (by omega)) (he 2 (by omega)) (fun k h1 _ => he k (by omega))
  refine ⟨⟨⟨hR, hV, hC, hT⟩, a5, by rw [a7.k0 (Or.inl rfl) hF, he 1 (by omega)]; exact a6, a7, hP⟩, b.fr (hX.lo (by omega)) (hX.lo (by omega)) (he 11 (by omega)) (fun k h1 _ => he k (by omega)), ⟨by rw [e0, he 0 (by omega)]; exact c.1, by rw [he 0 (by omega)]; exact c.2⟩, d.fr hX h08 h5, by rw [e0, h012]; exact e, f.fr hX h06 h4 (he 1 (by omega)) (he 2 (by omega)), g.fr (Or.inl rfl) a7 hF hC h03 h2⟩
theorem s_seed {q : zq} {u r : zU} (h : RR q u r) (n : Int32) : ∃ x u' r', f_X10_seed q n u = (x, u') ∧ f_X11_seed n r = (x, r') ∧ RR q u' r' := by
  have h0 := h.t 0
  obtain ⟨T, T', hb⟩ := h0
  have hV := h.iv
  have hR := h.rw
  have hd : ∀ j, j ≠ 12 → upd (r 1) 12 n j = r 1 j := fun j hj => upd_ne hj
  have hV2 := hV.ex (v' := upd (r 1) 12 n) (fun k hk => hd k (by omega))
  refine ⟨r 1 12, z_up u 6 16 n, z_up (z_up r 0 0 0) 1 12 n, ?_, ?_, T, T', hb.wh ?_ ?_ ?_ ?_ ?_ ?_ rfl rfl rfl rfl rfl rfl rfl⟩
  · rw [f_X10_seed_e, hR.s16]; rfl
  · rw [f_X11_seed_e]; rfl
  · exact Fr.rf.up (by omega)
  · exact hR.u16 n
  · exact hV2.1
  · exact hb.1.1.2.2.1.fw (Fw.rf.up (w := 6) (by omega)) (hb.1.2.2.2.1.ap (i := 0) (by decide))
  · exact h.cap.ex hV2.2.1 (fun r hr => ⟨hd _ (by have := hV.n8; omega), hd _ (by have := hV.n8; omega)⟩)
  · exact fun j hj => hd j (by omega)
theorem TPe.len {u r : zU} (h : TPe u r) {n : Nat} (hn : n ≤ 400) : TPe (z_up u 1 1 (nI n)) (z_up r 0 8 (nI n)) := by
  obtain ⟨m, a1, a2, a3, a4⟩ := h
  exact ⟨n, ⟨hn, a1.2⟩, rfl, rfl, a4⟩
theorem RR.len {q : zq} {u r : zU} (h : RR q u r) {n : Nat} (hn : n ≤ 400) : RR q (z_up u 1 1 (nI n)) (z_up r 0 8 (nI n)) := by
  obtain ⟨T, T', h⟩ := h
  exact ⟨T, T', h.gen (fun x h1 h2 => z_up_ne (by omega)) rfl rfl h.2.2.2.2.1 (h.2.2.2.1.len hn) rfl rfl rfl rfl rfl⟩
theorem pr_isIn (a b c : Int32) (u : zU) : f_X11_isIn a b c u = (decide (b ≤ a) && decide (a ≤ c)) := by
  rw [f_X11_isIn_e]
  by_cases h1 : a < b
  · rw [if_pos h1, decide_eq_false (by lia)]; rfl
  · rw [if_neg h1, decide_eq_true (show b ≤ a by lia)]
    by_cases h2 : c < a
    · rw [if_pos h2, decide_eq_false (by lia)]; rfl
    · rw [if_neg h2, decide_eq_true (show a ≤ c by lia)]; rfl
theorem s_end {q : zq} {u r : zU} (h : RR q u r) (n : Int32) : ∃ x u' r', f_X10_end q n u = (x, u') ∧ f_X11_end n r = (x, r') ∧ RR q u' r' := by
  have h0 := h.t 0
  obtain ⟨T, T', hb⟩ := id h
  obtain ⟨m, m1, m2, m3, m4⟩ := hb.2.2.2.1
  rw [f_X10_end_e, f_X11_end_e, m2]
  simp only [z_let]
  rw [pr_isIn, show (z_up r 0 0 0) 0 8 = nI m from m3]
  by_cases h1 : n < 0
  · rw [if_pos h1, decide_eq_false (show ¬ (0 : Int32) ≤ n by lia)]
    exact ⟨_, _, _, rfl, rfl, h0⟩
  · rw [if_neg h1, decide_eq_true (show (0 : Int32) ≤ n by lia), Bool.true_and]
    by_cases h2 : n ≤ nI m
    · rw [if_pos h2, decide_eq_true h2, if_pos rfl]
      obtain ⟨k, hk, rfl⟩ := nI_of h1
      have := (nI_leI hk (by omega)).mp h2
      exact ⟨_, _, _, rfl, rfl, h0.len (by omega)⟩
    · rw [if_neg h2, decide_eq_false h2, if_neg (by decide)]
      exact ⟨_, _, _, rfl, rfl, h0⟩
/-! feed -/
def byt (x : Int32) (i : Nat) : Int32 := (z_ushr x (nI (24 - 8 * i))) &&& 255
def stC (u : zU) (m : Nat) (b : Int32) : zU := z_up (z_up u 2 m b) 1 1 (nI (m + 1))
def stR (r : zU) (m : Nat) (b : Int32) : zU := z_up (z_up r 5 m b) 0 8 (nI (m + 1))
theorem byt_sm (x : Int32) (i : Nat) : sm (byt x i) 255 := by
  obtain ⟨j, h1, h2⟩ := pk_andE (z_ushr x (nI (24 - 8 * i))) (m := 255) 8 (by decide)
  exact ⟨j, by omega, h2⟩
theorem RR.byte {q : zq} {u r : zU} (h : RR q u r) {m : Nat} (hm : m < 400) {b : Int32} (hb : sm b 255) : RR q (stC u m b) (stR r m b) := by
  obtain ⟨T, T', h⟩ := h
  refine ⟨T, T', h.gen (fun x h1 h2 => ?_) rfl rfl h.2.2.2.2.1 ?_ rfl rfl rfl rfl rfl⟩
  · unfold stC; rw [z_up_ne (by omega), z_up_ne (by omega)]
  · obtain ⟨n, a1, a2, a3, a4⟩ := h.2.2.2.1
    refine ⟨m + 1, ⟨by omega, a1.2⟩, rfl, rfl, fun k hk => ?_⟩
    show upd (u 2) m b k = upd (r 5) m b k ∧ sm (upd (r 5) m b k) 255
    by_cases e : k = m
    · subst e; rw [upd_eq, upd_eq]; exact ⟨rfl, hb⟩
    · rw [upd_ne e, upd_ne e]; exact a4 k hk
theorem pc_add1 {u : zU} (x : Int32) (n : Nat) {m s : Nat} (hm : m < 400) (h1 : u 1 1 = nI m) (hs : s ≤ 24) : f_X7_add_3 (n + 1) x (nI s) u = f_X7_add_3 n x (nI s + (-8)) (z_up (z_up u 2 m ((z_ushr x (nI s)) &&& 255)) 1 1 (nI (m + 1))) := by
  rw [f_X7_add_3_s, if_neg (nI_pos (by omega)), h1, if_neg (show ¬ (400 : Int32) ≤ nI m from nI_ge (b := 400) hm (by decide)), if_pos (pu_in hm (by decide)), zl, zl, nI_clamp (by omega), z_up_ne (show (1 : Nat) ≠ 2 by decide), h1, nI_1]
theorem pc_add {u : zU} (x : Int32) {m : Nat} (hm : m + 4 ≤ 400) (h1 : u 1 1 = nI m) : f_X7_add x u = some (stC (stC (stC (stC u m (byt x 0)) (m + 1) (byt x 1)) (m + 2) (byt x 2)) (m + 3) (byt x 3)) := by
  rw [f_X7_add_e, show (24 : Int32) = nI 24 from rfl, pc_add1 x 4999 (m := m) (by omega) h1 (by decide)]
  rw [show nI 24 + (-8 : Int32) = nI 16 from by decide, pc_add1 x 4998 (m := m + 1) (by omega) rfl (by decide)]
  rw [show nI 16 + (-8 : Int32) = nI 8 from by decide, pc_add1 x 4997 (m := m + 2) (by omega) rfl (by decide)]
  rw [show nI 8 + (-8 : Int32) = nI 0 from by decide, pc_add1 x 4996 (m := m + 3) (by omega) rfl (by decide)]
  rw [show nI 0 + (-8 : Int32) = -8 from by decide, f_X7_add_3_s, if_pos (by decide)]
  rfl
def sel (a b c d e : Int32) (k : Nat) : Int32 := if k < 4 then a else if k < 8 then b else if k < 12 then c else if k < 16 then d else e
theorem pr_feed1 {r : zU} (a b c d e : Int32) (n : Nat) {m k : Nat} (hm : m < 400) (hk : k < 20) (h1 : r 0 8 = nI m) : f_X11_feed_23 (n + 1) a b c d e (nI k) r = f_X11_feed_23 n a b c d e (nI (k + 1)) (stR r m (byt (sel a b c d e k) (k % 4))) := by
  have hz : (24 : Int32) - (8 : Int32) * z_rem (nI k) 4 = nI (24 - 8 * (k % 4)) := by
    have e1 : z_rem (nI k) 4 = nI (k % 4) := pk_rem (d := 4) (by omega) (by decide) (by decide)
    have h4 : k % 4 < 4 := Nat.mod_lt _ (by decide)
    rw [e1]
    have h2 : ∀ j, j < 4 → (24 : Int32) - (8 : Int32) * nI j = nI (24 - 8 * j) := by decide +kernel
    exact h2 _ h4
  have hle : ∀ j, j < 100 → ((nI j ≤ nI k) ↔ j ≤ k) := fun j hj => nI_leI (by omega) (by omega)
  have key : ∀ x, sel a b c d e k = x → (if z_in (r 0 8) 400 = true then (z_let (z_up r 5 (r 0 8).toNatClampNeg ((z_ushr x ((24 : Int32) - ((8 : Int32) * (z_rem (nI k) (4 : Int32))))) &&& (255 : Int32))) (fun u2 => z_let (z_up u2 0 8 ((u2 0 8) + (1 : Int32))) (fun u3 => f_X11_feed_23 n a b c d e (nI k + (1 : Int32)) u3))) else none) = f_X11_feed_23 n a b c d e (nI (k + 1)) (stR r m (byt (sel a b c d e k) (k % 4))) := by
    intro x hx
    rw [h1, if_pos (pu_in hm (by decide)), zl, zl, nI_clamp (by omega), hz, z_up_ne (show (0 : Nat) ≠ 5 by decide), h1, nI_1, nI_1, hx]
    rfl
  rw [f_X11_feed_23_s, if_neg (show ¬ (20 : Int32) ≤ nI k from fun q => by have := (hle 20 (by decide)).mp q; omega)]
  by_cases h4 : 4 ≤ k
  · rw [if_pos (show (4 : Int32) ≤ nI k from (hle 4 (by decide)).mpr h4)]
    by_cases h8 : 8 ≤ k
    · rw [if_pos (show (8 : Int32) ≤ nI k from (hle 8 (by decide)).mpr h8)]
      by_cases h12 : 12 ≤ k
      · rw [if_pos (show (12 : Int32) ≤ nI k from (hle 12 (by decide)).mpr h12)]
        by_cases h16 : 16 ≤ k
        · rw [if_pos (show (16 : Int32) ≤ nI k from (hle 16 (by decide)).mpr h16)]
          exact key e (by unfold sel; rw [if_neg (by omega), if_neg (by omega), if_neg (by omega), if_neg (by omega)])
        · rw [if_neg (show ¬ (16 : Int32) ≤ nI k from fun q => h16 ((hle 16 (by decide)).mp q))]
          exact key d (by unfold sel; rw [if_neg (by omega), if_neg (by omega), if_neg (by omega), if_pos (by omega)])
      · rw [if_neg (show ¬ (12 : Int32) ≤ nI k from fun q => h12 ((hle 12 (by decide)).mp q))]
        exact key c (by unfold sel; rw [if_neg (by omega), if_neg (by omega), if_pos (by omega)])
    · rw [if_neg (show ¬ (8 : Int32) ≤ nI k from fun q => h8 ((hle 8 (by decide)).mp q))]
      exact key b (by unfold sel; rw [if_neg (by omega), if_pos (by omega)])
  · rw [if_neg (show ¬ (4 : Int32) ≤ nI k from fun q => h4 ((hle 4 (by decide)).mp q))]
    exact key a (by unfold sel; rw [if_pos (by omega)])
def st4C (u : zU) (m : Nat) (x : Int32) : zU := stC (stC (stC (stC u m (byt x 0)) (m + 1) (byt x 1)) (m + 2) (byt x 2)) (m + 3) (byt x 3)
def st4R (r : zU) (m : Nat) (x : Int32) : zU := stR (stR (stR (stR r m (byt x 0)) (m + 1) (byt x 1)) (m + 2) (byt x 2)) (m + 3) (byt x 3)
theorem pr_feed4 {r : zU} (a b c d e : Int32) (n : Nat) {m w : Nat} (hm : m + 4 ≤ 400) (hw : w < 5) (h1 : r 0 8 = nI m) : f_X11_feed_23 (n + 4) a b c d e (nI (4 * w)) r = f_X11_feed_23 n a b c d e (nI (4 * (w + 1))) (st4R r m (sel a b c d e (4 * w))) := by
  have hs : ∀ j, j < 4 → sel a b c d e (4 * w + j) = sel a b c d e (4 * w) := by
    intro j hj
    unfold sel
    match w, hw with
    | 0, _ => rw [if_pos (by omega), if_pos (by omega)]
    | 1, _ => rw [if_neg (by omega), if_pos (by omega), if_neg (by omega), if_pos (by omega)]
    | 2, _ => rw [if_neg (by omega), if_neg (by omega), if_pos (by omega), if_neg (by omega), if_neg (by omega), if_pos (by omega)]
    | 3, _ => rw [if_neg (by omega), if_neg (by omega), if_neg (by omega), if_pos (by omega), if_neg (by omega), if_neg (by omega), if_neg (by omega), if_pos (by omega)]
    | 4, _ => rw [if_neg (by omega), if_neg (by omega), if_neg (by omega), if_neg (by omega), if_neg (by omega), if_neg (by omega), if_neg (by omega), if_neg (by omega)]
  rw [pr_feed1 a b c d e (n + 3) (m := m) (by omega) (by omega) h1, pr_feed1 a b c d e (n + 2) (m := m + 1) (by omega) (by omega) rfl, pr_feed1 a b c d e (n + 1) (m := m + 2) (by omega) (by omega) rfl, pr_feed1 a b c d e n (m := m + 3) (by omega) (by omega) rfl]
  rw [show 4 * w + 1 + 1 + 1 = 4 * w + 3 by omega, show 4 * w + 1 + 1 = 4 * w + 2 by omega, hs 1 (by decide), hs 2 (by decide), hs 3 (by decide), show 4 * w % 4 = 0 by omega, show (4 * w + 1) % 4 = 1 by omega, show (4 * w + 2) % 4 = 2 by omega, show (4 * w + 3) % 4 = 3 by omega]
  rfl
theorem RR.word {q : zq} {u r : zU} (h : RR q u r) {m : Nat} (hm : m + 4 ≤ 400) (x : Int32) : RR q (st4C u m x) (st4R r m x) := (((h.byte (by omega) (byt_sm x 0)).byte (by omega) (byt_sm x 1)).byte (by omega) (byt_sm x 2)).byte (by omega) (byt_sm x 3)
theorem s_feed {q : zq} {u r : zU} (h : RR q u r) (a b c d e : Int32) : ∃ x u' r', f_X10_feed q a b c d e u = some (x, u') ∧ f_X11_feed a b c d e r = some (x, r') ∧ RR q u' r' := by
  have h0 := h.t 0
  obtain ⟨T, T', hb⟩ := id h
  obtain ⟨m, m1, m2, m3, m4⟩ := hb.2.2.2.1
  rw [f_X10_feed_e, f_X11_feed_e, zl]
  have m5 : (z_up r 0 0 0) 0 8 = nI m := m3
  generalize z_up r 0 0 0 = r0 at h0 m5 ⊢
  rw [m5, m2]
  by_cases hc : nI m + 20 ≤ 400
  · rw [if_pos hc, if_pos hc]
    have hm : m + 20 ≤ 400 := by
      rw [show (20 : Int32) = nI 20 from rfl, nI_add, show (400 : Int32) = nI 400 from rfl, nI_leI (by omega) (by omega)] at hc
      exact hc
    refine ⟨nI (m + 20), st4C (st4C (st4C (st4C (st4C u m a) (m + 4) b) (m + 8) c) (m + 12) d) (m + 16) e, st4R (st4R (st4R (st4R (st4R r0 m a) (m + 4) b) (m + 8) c) (m + 12) d) (m + 16) e, ?_, ?_, ((((h0.word (by omega) a).word (by omega) b).word (by omega) c).word (by omega) d).word (by omega) e⟩
    · rw [pc_add a (m := m) (by omega) m2, Option.bind_some, pc_add b (m := m + 4) (by omega) rfl, Option.bind_some, pc_add c (m := m + 8) (by omega) rfl, Option.bind_some, pc_add d (m := m + 12) (by omega) rfl, Option.bind_some, pc_add e (m := m + 16) (by omega) rfl, Option.bind_some]
      rfl
    · rw [show (0 : Int32) = nI (4 * 0) from rfl, pr_feed4 a b c d e 4996 (m := m) (w := 0) (by omega) (by decide) m5, pr_feed4 a b c d e 4992 (m := m + 4) (w := 1) (by omega) (by decide) rfl, pr_feed4 a b c d e 4988 (m := m + 8) (w := 2) (by omega) (by decide) rfl, pr_feed4 a b c d e 4984 (m := m + 12) (w := 3) (by omega) (by decide) rfl, pr_feed4 a b c d e 4980 (m := m + 16) (w := 4) (by omega) (by decide) rfl]
      rw [f_X11_feed_23_s _ _ _ _ _ _ _ _, if_pos (by decide)]
      rfl
  · rw [if_neg hc, if_neg hc]
    exact ⟨_, _, _, rfl, rfl, h0⟩
