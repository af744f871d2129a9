/-! PURE, 8: the wind; who pays -/
def okb (k : Nat) (y : Int32) : Prop := (∀ r, r < 8 → k = 26 + 4 * r → sm y 9) ∧ (∀ r, r < 8 → k = 27 + 4 * r → sm y 999) ∧ (∀ r, r < 8 → k = 28 + 4 * r → sm y 3) ∧ (∀ r, r < 8 → k = 17 + r → sm y 9) ∧ (k = 5 → sm y 99) ∧ (k = 6 → sm y 9999) ∧ (k = 7 → ∃ j, 1 ≤ j ∧ j ≤ 8 ∧ y = nI j) ∧ (k = 8 → sm y 100) ∧ (k = 9 → sm y 9999)
theorem up_c {v : Nat → Int32} {k j : Nat} {y : Int32} {Q : Int32 → Prop} (h : Q (v j)) (h2 : k = j → Q y) : Q (upd v k y j) := by
  by_cases e : j = k
  · subst e; rw [upd_eq]; exact h2 rfl
  · rw [upd_ne e]; exact h
theorem IVb.up {v : Nat → Int32} (h : IVb v) {k : Nat} {y : Int32} (o : okb k y) : IVb (upd v k y) := by
  obtain ⟨h1, h2, h3, h4, h5, h6⟩ := h
  obtain ⟨o1, o2, o3, o4, o5, o6, o7, o8, o9⟩ := o
  refine ⟨fun r hr => ⟨?_, ?_, ?_, ?_⟩, ?_, ?_, ?_, ?_, ?_⟩
  · exact up_c (Q := fun x => sm x 9) (h1 r hr).1 (o1 r hr)
  · exact up_c (Q := fun x => sm x 999) (h1 r hr).2.1 (o2 r hr)
  · exact up_c (Q := fun x => sm x 3) (h1 r hr).2.2.1 (o3 r hr)
  · exact up_c (Q := fun x => sm x 9) (h1 r hr).2.2.2 (o4 r hr)
  · exact up_c (Q := fun x => sm x 99) h2 o5
  · exact up_c (Q := fun x => sm x 9999) h3 o6
  · exact up_c (Q := fun x => ∃ j, 1 ≤ j ∧ j ≤ 8 ∧ x = nI j) h4 o7
  · exact up_c (Q := fun x => sm x 100) h5 o8
  · exact up_c (Q := fun x => sm x 9999) h6 o9
/-- a number of the row is changed that is neither a place, nor of the row of those who wait, nor one of the counts -/
theorem IV.u {v : Nat → Int32} (h : IV v) {k : Nat} {y : Int32} (hk : k ≠ 3 ∧ k ≠ 4 ∧ k ≠ 10 ∧ (k < 57 ∨ 65 ≤ k)) (hp : ∀ r, r < 8 → k ≠ 25 + 4 * r) (o : okb k y) : IV (upd v k y) ∧ rN (upd v k y) = rN v ∧ wN (upd v k y) = wN v ∧ tP (upd v k y) = tP v := by
  have h8 := h.n8
  have hw := h.w8
  have e3 : upd v k y 3 = v 3 := upd_ne (by omega)
  have e4 : upd v k y 4 = v 4 := upd_ne (by omega)
  have e10 : upd v k y 10 = v 10 := upd_ne (by omega)
  have eN := rN_of e3
  have eT := tP_of e4
  have eW : wN (upd v k y) = wN v := by unfold wN; rw [e10]
  have epl : ∀ r, r < 8 → upd v k y (25 + 4 * r) = v (25 + 4 * r) := fun r hr => upd_ne (fun e => hp r hr e.symm)
  have ero : ∀ i, i < 8 → upd v k y (57 + i) = v (57 + i) := fun i hi => upd_ne (by omega)
  obtain ⟨c1, c2, c3⟩ := h.2.2
  refine ⟨⟨⟨⟨by rw [e3, eN]; exact h.n, by rw [eN]; exact h8⟩, ⟨by rw [e4, eT]; exact h.t, by rw [eT]; exact h.t8⟩, ⟨by rw [e10, eW]; exact h.w, ?_⟩, fun r hr => ?_⟩, h.2.1.up o, fun i hi => ?_, fun i j hi hj hij => ?_, fun x hx hp => ?_⟩, eN, eW, eT⟩
  · rw [eW, eN, h.wc]
    exact bcnt_ext _ (fun k hk => by rw [epl k (by omega)])
  · rw [eN] at hr
    rw [epl r (by omega)]; exact h.pl hr
  · rw [eW] at hi
    obtain ⟨x, x1, x2, x3⟩ := c1 i hi
    exact ⟨x, by rw [eN]; exact x1, by rw [ero i (by omega)]; exact x2, by rw [epl x (by omega)]; exact x3⟩
  · rw [eW] at hi hj
    rw [ero i (by omega), ero j (by omega)] at hij
    exact c2 i j hi hj hij
  · rw [eN] at hx
    rw [epl x (by omega)] at hp
    obtain ⟨i, i1, i2⟩ := c3 x hx hp
    exact ⟨i, by rw [eW]; exact i1, by rw [ero i (by omega)]; exact i2⟩
theorem okb_b {h : Nat} (hh : h < 8) {y : Int32} (hy : sm y 9) : okb (17 + h) y := ⟨fun r _ _ => by omega, fun r _ _ => by omega, fun r _ _ => by omega, fun _ _ _ => hy, fun _ => by omega, fun _ => by omega, fun _ => by omega, fun _ => by omega, fun _ => by omega⟩
theorem okb_p {r : Nat} (hr : r < 8) {y : Int32} (hy : sm y 999) : okb (27 + 4 * r) y := ⟨fun r _ _ => by omega, fun _ _ _ => hy, fun r _ _ => by omega, fun _ _ _ => by omega, fun _ => by omega, fun _ => by omega, fun _ => by omega, fun _ => by omega, fun _ => by omega⟩
theorem okb_6 {y : Int32} (hy : sm y 9999) : okb 6 y := ⟨fun r _ _ => by omega, fun _ _ _ => by omega, fun r _ _ => by omega, fun _ _ _ => by omega, fun _ => by omega, fun _ => hy, fun _ => by omega, fun _ => by omega, fun _ => by omega⟩
theorem okb_9 {y : Int32} (hy : sm y 9999) : okb 9 y := ⟨fun r _ _ => by omega, fun _ _ _ => by omega, fun r _ _ => by omega, fun _ _ _ => by omega, fun _ => by omega, fun _ => by omega, fun _ => by omega, fun _ => by omega, fun _ => hy⟩
theorem okb_5 {y : Int32} (hy : sm y 99) : okb 5 y := ⟨fun r _ _ => by omega, fun _ _ _ => by omega, fun r _ _ => by omega, fun _ _ _ => by omega, fun _ => hy, fun _ => by omega, fun _ => by omega, fun _ => by omega, fun _ => by omega⟩
theorem okb_t {p : Nat} (hp : p < 4) {y : Int32} : okb (13 + p) y := ⟨fun r _ _ => by omega, fun _ _ _ => by omega, fun r _ _ => by omega, fun _ _ _ => by omega, fun _ => by omega, fun _ => by omega, fun _ => by omega, fun _ => by omega, fun _ => by omega⟩
theorem sm_i {x : Int32} {m : Nat} (hm : m < 2 ^ 31) : sm x m ↔ 0 ≤ x ∧ x ≤ nI m := by
  constructor
  · rintro ⟨k, hk, rfl⟩
    exact ⟨nI_pos' (by omega), nI_le hk hm⟩
  · rintro ⟨h1, h2⟩
    obtain ⟨j, hj, rfl⟩ := nI_of (show ¬ x < 0 by lia)
    exact ⟨j, (nI_leI hj hm).mp h2, rfl⟩
theorem sm_9 {x : Int32} : sm x 9 ↔ 0 ≤ x ∧ x ≤ 9 := sm_i (by decide)
theorem sm_999 {x : Int32} : sm x 999 ↔ 0 ≤ x ∧ x ≤ 999 := sm_i (by decide)
theorem sm_9999 {x : Int32} : sm x 9999 ↔ 0 ≤ x ∧ x ≤ 9999 := sm_i (by decide)
theorem sm_99 {x : Int32} : sm x 99 ↔ 0 ≤ x ∧ x ≤ 99 := sm_i (by decide)
theorem sm_100 {x : Int32} : sm x 100 ↔ 0 ≤ x ∧ x ≤ 100 := sm_i (by decide)
theorem sm_3 {x : Int32} : sm x 3 ↔ 0 ≤ x ∧ x ≤ 3 := sm_i (by decide)
theorem sQA_ext {P P' : Nat → Bool} {n : Nat} {v : Nat → Int32} (h : ∀ r, r < n → P r = P' r) : sQA P n v = sQA P' n v := zfo_ext n (fun k hk => by rw [h k hk])
theorem z_max_eq (x y : Int32) : (if x ≤ y then y else x) = z_max x y := by
  unfold z_max
  by_cases h : x ≤ y
  · rw [if_pos h]
    by_cases h2 : x < y
    · rw [if_pos h2]
    · rw [if_neg h2]; lia
  · rw [if_neg h, if_neg (by lia)]
theorem z_min_eq (x y : Int32) : (if y ≤ x then y else x) = z_min x y := by
  unfold z_min
  by_cases h : y ≤ x
  · rw [if_pos h]
    by_cases h2 : y < x
    · rw [if_pos h2]
    · rw [if_neg h2]; lia
  · rw [if_neg h, if_neg (by lia)]
/-- the cradle that the wind hits -/
def sHit (v : Nat → Int32) : Nat := (rnd v).toNatClampNeg % 8
theorem sHit_c (v : Nat → Int32) : rnd v &&& 7 = nI (sHit v) ∧ z_rem (rnd v) 8 = nI (sHit v) ∧ sHit v < 8 := by
  obtain ⟨d, hd, e⟩ := rnd_lt v
  unfold sHit
  rw [e, nI_clamp (by omega)]
  exact ⟨pk_andN (by omega) 3 (by decide), pk_rem (d := 8) (by omega) (by decide) (by decide), Nat.mod_lt _ (by decide)⟩
def sB3 (v : Nat → Int32) : Nat → Int32 := upd (sD v) (17 + sHit v) (z_max 0 (v (17 + sHit v) - 1))
def sBlow (v : Nat → Int32) : Nat → Int32 := if z_rem (rnd v) 100 < v 8 then sQA (fun r => decide (sB3 (sD v) (17 + sHit (sD v)) = 0) && Pin (sB3 (sD v)) (nI (sHit (sD v))) r) (rN v) (sB3 (sD v)) else sD v
theorem sD_8 (v : Nat → Int32) : sD v 8 = v 8 := upd_ne (by decide)
theorem IV.b3 {v : Nat → Int32} (h : IV v) : IV (sB3 v) ∧ rN (sB3 v) = rN v := by
  have hh := (sHit_c v).2.2
  obtain ⟨d1, d2, d3, d4⟩ := h.d
  have h9 := sm_9.mp (h.bo hh)
  have := d1.u (k := 17 + sHit v) (y := z_max 0 (v (17 + sHit v) - 1)) (by omega) (fun r hr => by omega) (okb_b hh (sm_9.mpr (by unfold z_max; split <;> lia)))
  exact ⟨this.1, this.2.1.trans d2⟩
theorem pc_blow {u : zU} {w : Nat} {v : Nat → Int32} (hR : RW u w v) (hV : IV v) (L : Nat → Nat) : ∃ u', f_X9_blow w L u = some u' ∧ RW u' w (sBlow v) ∧ Fw w u u' ∧ ∀ j, 17 ≤ j → u' w j = u w j := by
  obtain ⟨u1, e1, R1, F1, j1, -⟩ := pc_draw hR L
  obtain ⟨u2, e2, R2, F2, j2, -⟩ := pc_draw R1 L
  have hV1 := hV.d.1
  have hV2 := hV1.d.1
  obtain ⟨a1, -, a3⟩ := sHit_c (sD v)
  have hb : (sD (sD v)) (17 + sHit (sD v)) = (sD v) (17 + sHit (sD v)) := upd_ne (by omega)
  rw [f_X9_blow_e, e1]
  unfold z_let2 sBlow
  dsimp only
  rw [R1.s13, sD_8]
  by_cases hc : z_rem (rnd v) 100 < v 8
  · rw [if_pos hc, if_pos hc, e2]
    dsimp only
    simp only [z_let]
    rw [a1, if_pos (pu_in a3 (by decide)), nI_clamp (by omega), R2.bo a3, if_pos (pu_in a3 (by decide)), hb]
    have R3 : RW (z_up u2 (w + 6) (sHit (sD v)) (z_max 0 ((sD v) (17 + sHit (sD v)) - 1))) w (sB3 (sD v)) := R2.up (kap_1 _ a3).2.2.2.2.2 _
    obtain ⟨u4, e4, R4, F4, j4⟩ := pc_blow43 R3 hV1.b3.1 L a3
    rw [e4]
    refine ⟨u4, rfl, ?_, ((F1.tr F2).up (by omega)).tr F4, fun j hj => ?_⟩
    · rw [hV1.b3.2, hV.d.2.1] at R4; exact R4
    · rw [j4 j hj, z_up_ne (by omega), j2 j hj, j1 j hj]
  · rw [if_neg hc, if_neg hc]
    exact ⟨u1, rfl, R1, F1, j1⟩
theorem pr_blows {u : zU} (hV : IV (u 1)) : f_X11_blows u = some (zst u 1 (sBlow (u 1))) := by
  have h8 := hV.n8
  have hV1 := hV.d.1
  have hV3 := hV1.b3
  obtain ⟨-, a1, a3⟩ := sHit_c (sD (u 1))
  have hb : (sD (sD (u 1))) (17 + sHit (sD (u 1))) = (sD (u 1)) (17 + sHit (sD (u 1))) := upd_ne (by omega)
  rw [f_X11_blows_e, pr_draw (by decide)]
  unfold sBlow
  simp only [z_b2, Option.bind_some, zst_e, sD_8]
  by_cases hc : z_rem (rnd (u 1)) 100 < u 1 8
  · rw [if_pos hc, if_pos hc, pr_draw (by decide)]
    simp only [Option.bind_some, zst_e, zst_zst]
    rw [a1, pu_l17, if_pos (pu_in (by omega) (by decide)), nI_clamp (by omega)]
    simp only [z_let, f_X11_greater_e, z_max_eq, hb]
    rw [if_pos (pu_in (by omega) (by decide)), if_pos (pu_in (by omega) (by decide))]
    rw [show z_up (zst u 1 (sD (sD (u 1)))) 1 (17 + sHit (sD (u 1))) (z_max 0 (sD (u 1) (17 + sHit (sD (u 1))) - 1)) = zst u 1 (sB3 (sD (u 1))) by rw [z_up_st, zst_zst, zst_e]; rfl, zst_e]
    have hn : rN (sB3 (sD (u 1))) = rN (u 1) := hV3.2.trans hV.d.2.1
    by_cases h0 : sB3 (sD (u 1)) (17 + sHit (sD (u 1))) = 0
    · rw [if_pos h0, pr_those (by rw [zst_e]; exact hV3.1)]
      simp only [Option.bind_some, zst_e]
      have hq := (pr_blows72 (u := u) hV3.1 (m := bset (Pin (sB3 (sD (u 1))) (nI (sHit (sD (u 1))))) (rN (sB3 (sD (u 1))))) (bset256 hV3.1.n8) (fun r hr hbit => by
        rw [bset_bit, Bool.and_eq_true] at hbit
        have := of_decide_eq_true hbit.2
        rw [this]; exact pu_m1 (by omega))).1
      rw [hq]
      congr 2
      rw [hn]
      refine sQA_ext (fun r hr => ?_)
      rw [bset_bit, h0]
      simp [hr]
    · rw [if_neg h0]
      have hq := (pr_blows72 (u := u) hV3.1 (m := 0) (by decide) (fun r hr hbit => by simp at hbit)).1
      refine Eq.trans hq ?_
      congr 2
      rw [hn]
      refine sQA_ext (fun r hr => ?_)
      simp [h0]
  · rw [if_neg hc, if_neg hc]
