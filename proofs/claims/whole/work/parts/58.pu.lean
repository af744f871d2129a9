/-! PURE, 9: all at the bottom pay -/
theorem CL.fw {u u' : zU} {w : Nat} {L : Nat → Nat} {T : zT} (h : CL u L T) (hF : Fw w u u') (hL : Lap w L) : CL u' L T := h.fr (fun j a b => hF _ (hL j a (by omega)))
def sGiv (v : Nat → Int32) (T : zT) (r b : Nat) : Int32 := z_min (v (27 + 4 * r)) (sOw v T r b (v 5))
def sPay (v : Nat → Int32) (T : zT) (r b : Nat) : Nat → Int32 := upd (upd v (27 + 4 * r) (v (27 + 4 * r) - sGiv v T r b)) 6 (z_min 9999 (v 6 + sGiv v T r b))
def sPq (v : Nat → Int32) (T : zT) (r b : Nat) : Nat → Int32 := if v (27 + 4 * r) - sGiv v T r b = 0 then sQ (sPay v T r b) r else sPay v T r b
def sCo1 (T : zT) (b r : Nat) (s : Int32 × (Nat → Int32)) : Int32 × (Nat → Int32) := if Pin s.2 (nI b) r = true then (s.1 + sGiv s.2 T r b, sPq s.2 T r b) else s
def sCo (v : Nat → Int32) (T : zT) (b : Nat) (k : Nat) : Int32 × (Nat → Int32) := zfo (sCo1 T b) k (0, v)
/-- as far as k: what the collecting has left of v -/
def CoI (v : Nat → Int32) (k : Nat) (a : Nat → Int32) : Prop := IV a ∧ rN a = rN v ∧ (∀ r, k ≤ r → r < 8 → a (25 + 4 * r) = v (25 + 4 * r)) ∧ ∀ j, j ≠ 6 → j ≠ 10 → ¬ (25 ≤ j ∧ j < 65) → a j = v j
theorem sGiv_b {v : Nat → Int32} (h : IV v) (T : zT) {r b : Nat} (hr : r < 8) : 0 ≤ sGiv v T r b ∧ sGiv v T r b ≤ v (27 + 4 * r) ∧ v (27 + 4 * r) ≤ 999 := by
  have h1 := sm_999.mp (h.pu hr)
  have h2 : 0 ≤ sOw v T r b (v 5) := by
    unfold sOw z_max
    split
    · lia
    · lia
  unfold sGiv z_min
  split
  · exact ⟨h2, by lia, h1.2⟩
  · exact ⟨h1.1, by lia, h1.2⟩
theorem IV.pay {v : Nat → Int32} (h : IV v) (T : zT) {r b : Nat} (hr : r < 8) : IV (sPay v T r b) ∧ rN (sPay v T r b) = rN v := by
  obtain ⟨g1, g2, g3⟩ := sGiv_b h T (b := b) hr
  have h1 := h.u (k := 27 + 4 * r) (y := v (27 + 4 * r) - sGiv v T r b) (by omega) (fun x hx => by omega) (okb_p hr (sm_999.mpr (by lia)))
  have h6 := sm_9999.mp h.v6
  have h2 := h1.1.u (k := 6) (y := z_min 9999 (v 6 + sGiv v T r b)) (by omega) (fun x hx => by omega) (okb_6 (sm_9999.mpr (by unfold z_min; split <;> lia)))
  exact ⟨h2.1, h2.2.1.trans h1.2.1⟩
theorem sPay_o {v : Nat → Int32} {T : zT} {r b j : Nat} (h1 : j ≠ 27 + 4 * r) (h2 : j ≠ 6) : sPay v T r b j = v j := by unfold sPay; rw [upd_ne h2, upd_ne h1]
theorem sPay_p {v : Nat → Int32} {T : zT} {r b : Nat} : sPay v T r b (27 + 4 * r) = v (27 + 4 * r) - sGiv v T r b := by unfold sPay; rw [upd_ne (by omega), upd_eq]
theorem CoI.s {v a : Nat → Int32} {k : Nat} (h : CoI v k a) (T : zT) {b : Nat} (hk : k < rN v) (hb : b < 8) (hp : v (25 + 4 * k) = nI b) : CoI v (k + 1) (sPq a T k b) := by
  obtain ⟨h1, h2, h3, h4⟩ := h
  have h8 := h1.n8
  have hp2 : a (25 + 4 * k) = nI b := (h3 k (Nat.le_refl k) (by omega)).trans hp
  obtain ⟨p1, p2⟩ := h1.pay T (r := k) (b := b) (by omega)
  have hs : sPay a T k b (25 + 4 * k) ≠ -1 := by rw [sPay_o (by omega) (by omega), hp2]; exact pu_m1 (by omega)
  unfold sPq
  split
  · obtain ⟨q1, q2⟩ := p1.q (x := k) (by omega) hs
    have hw := p1.room (x := k) (by omega) hs
    refine ⟨q1, by omega, fun r hr hr8 => ?_, fun j j1 j2 j3 => ?_⟩
    · rw [sQ_o (by omega) (by omega) (by omega), sPay_o (by omega) (by omega)]; exact h3 r (by omega) hr8
    · rw [sQ_o (by omega) (by omega) (by omega), sPay_o (by omega) j1]; exact h4 j j1 j2 j3
  · refine ⟨p1, by omega, fun r hr hr8 => ?_, fun j j1 j2 j3 => ?_⟩
    · rw [sPay_o (by omega) (by omega)]; exact h3 r (by omega) hr8
    · rw [sPay_o (by omega) j1]; exact h4 j j1 j2 j3
theorem CoI.m {v a : Nat → Int32} {k : Nat} (h : CoI v k a) : CoI v (k + 1) a := ⟨h.1, h.2.1, fun r hr => h.2.2.1 r (by omega), h.2.2.2⟩
theorem CoI.i {v : Nat → Int32} (h : IV v) : CoI v 0 v := ⟨h, rfl, fun _ _ _ => rfl, fun _ _ _ _ => rfl⟩
theorem CoI.law {v a : Nat → Int32} {k : Nat} (h : CoI v k a) {T : zT} (hT : RLw v T) : RLw a T := hT.ex (h.2.2.2 1 (by omega) (by omega) (by omega)) (h.2.2.2 2 (by omega) (by omega) (by omega)) (fun j h1 h2 => h.2.2.2 j (by omega) (by omega) (by omega))
theorem sCo_s (v : Nat → Int32) (T : zT) (b k : Nat) : sCo v T b (k + 1) = sCo1 T b k (sCo v T b k) := rfl
theorem pc_collect {u : zU} {w : Nat} {v : Nat → Int32} {L : Nat → Nat} {T : zT} (hR : RW u w v) (hV : IV v) (hC : CL u L T) (hL : Lap w L) {b : Nat} (hb : b < 8) :
    ∃ u', f_X9_collect w L (nI b) u = some ((sCo v T b (rN v)).1, u') ∧ RW u' w (sCo v T b (rN v)).2 ∧ CL u' L T ∧ Fr w L u u' ∧ (∀ j, 17 ≤ j → u' w j = u w j) ∧ CoI v (rN v) (sCo v T b (rN v)).2 := by
  have h8 := hV.n8
  have hm : ∀ d k fuel u2 s, k + d = rN v → d < fuel → s = sCo v T b k → RW u2 w s.2 → CoI v k s.2 → CL u2 L T → Fr w L u u2 → (∀ j, 17 ≤ j → u2 w j = u w j) → ∃ u', f_X9_collect_4 w L fuel (nI b) s.1 (nI k) u2 = some ((sCo v T b (rN v)).1, u') ∧ RW u' w (sCo v T b (rN v)).2 ∧ CL u' L T ∧ Fr w L u u' ∧ (∀ j, 17 ≤ j → u' w j = u w j) ∧ CoI v (rN v) (sCo v T b (rN v)).2 := by
    intro d
    induction d with
    | zero =>
      intro k fuel u2 s hk hfu hs hR2 hq hC2 hF hj
      obtain ⟨n, rfl⟩ : ∃ n, fuel = n + 1 := ⟨fuel - 1, by omega⟩
      obtain rfl : k = rN v := by omega
      rw [f_X9_collect_4_s, hR2.s8, hq.1.n, hq.2.1, if_pos (nI_le (Nat.le_refl _) (by omega))]
      rw [hs] at hR2 hq
      exact ⟨u2, by rw [hs], hR2, hC2, hF, hj, hq⟩
    | succ d ih =>
      intro k fuel u2 s hk hfu hs hR2 hq hC2 hF hj
      obtain ⟨n, rfl⟩ : ∃ n, fuel = n + 1 := ⟨fuel - 1, by omega⟩
      have hk2 : k < rN v := by omega
      have hk8 : k < 8 := by omega
      have hst : sCo v T b (k + 1) = sCo1 T b k s := by rw [hs]; rfl
      rw [f_X9_collect_4_s, hR2.s8, hq.1.n, hq.2.1, if_neg (nI_ge hk2 (by omega)), if_pos (pu_in hk8 (by decide)), nI_clamp (show k < 2 ^ 31 by omega)]
      simp only [z_let]
      rw [hR2.pl hk8]
      by_cases h1 : s.2 (25 + 4 * k) = nI b
      · rw [if_pos h1, if_pos (pu_in hk8 (by decide)), hR2.s10, hR2.pu hk8]
        obtain ⟨u3, e3, R3, C3, F3, j3⟩ := pc_owesBy hR2 hq.1 hC2 hL (x := k) (by rw [hq.2.1]; exact hk2) hb h1 (s.2 5)
        rw [e3]
        simp only [z_b2, Option.bind_some]
        rw [if_pos (pu_in hk8 (by decide)), if_pos (pu_in hk8 (by decide)), if_pos (pu_in hk8 (by decide)), R3.pu hk8]
        simp only [z_up_ne (show w ≠ w + 3 by omega), z_up_ne (show w + 3 ≠ w by omega), z_up_eq, upd_eq, R3.s11]
        have hvp : v (25 + 4 * k) = nI b := (hq.2.2.1 k (Nat.le_refl k) hk8).symm.trans h1
        have hq2 := hq.s T hk2 hb hvp
        have hs2 : sCo1 T b k s = (s.1 + sGiv s.2 T k b, sPq s.2 T k b) := if_pos (decide_eq_true h1)
        have R4 : RW (z_up (z_up u3 (w + 3) k (s.2 (27 + 4 * k) - sGiv s.2 T k b)) w 11 (z_min 9999 (s.2 6 + sGiv s.2 T k b))) w (sPay s.2 T k b) := (R3.up (kap_1 k hk8).2.2.1 _).u11 _
        have C4 : CL (z_up (z_up u3 (w + 3) k (s.2 (27 + 4 * k) - sGiv s.2 T k b)) w 11 (z_min 9999 (s.2 6 + sGiv s.2 T k b))) L T := C3.fr (fun j a c => by
          have := hL j a (by omega)
          rw [z_up_ne (by omega), z_up_ne (by omega)])
        have F4 : Fr w L u (z_up (z_up u3 (w + 3) k (s.2 (27 + 4 * k) - sGiv s.2 T k b)) w 11 (z_min 9999 (s.2 6 + sGiv s.2 T k b))) := ((hF.tr F3).up (by omega)).up (by omega)
        have j4 : ∀ j, 17 ≤ j → (z_up (z_up u3 (w + 3) k (s.2 (27 + 4 * k) - sGiv s.2 T k b)) w 11 (z_min 9999 (s.2 6 + sGiv s.2 T k b))) w j = u w j := fun j hj2 => by
          rw [z_up_eq, upd_ne (by omega), z_up_ne (by omega), j3 j]; exact hj j hj2
        by_cases h0 : s.2 (27 + 4 * k) - sGiv s.2 T k b = 0
        · have h00 : s.2 (27 + 4 * k) - z_min (s.2 (27 + 4 * k)) (sOw s.2 T k b (s.2 5)) = 0 := h0
          rw [if_pos h00]
          obtain ⟨p1, p2⟩ := hq.1.pay T (r := k) (b := b) hk8
          obtain ⟨u5, e5, R5, F5, j5⟩ := pc_getOff R4 p1 L (x := k) (by rw [p2, hq.2.1]; exact hk2) (by rw [sPay_o (by omega) (by omega), h1]; exact pu_m1 (by omega))
          have e6 : sPq s.2 T k b = sQ (sPay s.2 T k b) k := if_pos h0
          rw [show z_min (s.2 (27 + 4 * k)) (sOw s.2 T k b (s.2 5)) = sGiv s.2 T k b from rfl, e5]
          simp only [Option.bind_some, nI_1]
          have C5 : CL u5 L T := C4.fw F5 hL
          exact ih (k + 1) n u5 (s.1 + sGiv s.2 T k b, sPq s.2 T k b) (by omega) (by omega) (by rw [← hs2]; exact hst.symm) (by rw [e6]; exact R5) hq2 C5 (F4.tr F5.f) (fun j hj2 => (j5 j hj2).trans (j4 j hj2))
        · have h00 : ¬ s.2 (27 + 4 * k) - z_min (s.2 (27 + 4 * k)) (sOw s.2 T k b (s.2 5)) = 0 := h0
          rw [if_neg h00, nI_1]
          have e6 : sPq s.2 T k b = sPay s.2 T k b := if_neg h0
          exact ih (k + 1) n _ (s.1 + sGiv s.2 T k b, sPq s.2 T k b) (by omega) (by omega) (by rw [← hs2]; exact hst.symm) (by rw [e6]; exact R4) hq2 C4 F4 j4
      · rw [if_neg h1, nI_1]
        have hs2 : sCo1 T b k s = s := if_neg (by simp [Pin, h1])
        exact ih (k + 1) n u2 s (by omega) (by omega) (by rw [hst, hs2]) hR2 hq.m hC2 hF hj
  rw [f_X9_collect_e]
  exact hm (rN v) 0 5000 u (0, v) (by omega) (by omega) rfl hR (CoI.i hV) hC Fr.rf (fun _ _ => rfl)
theorem pr_collects {u : zU} {T : zT} (hV : IV (u 1)) (hT : RLw (u 1) T) {b : Nat} (hb : b < 8) :
    ∃ u', f_X11_collects (nI b) u = some ((sCo (u 1) T b (rN (u 1))).1, u') ∧ u' 1 = (sCo (u 1) T b (rN (u 1))).2 ∧ RF u u' := by
  have h8 := hV.n8
  have hm : ∀ d k fuel u2 s, k + d = rN (u 1) → d < fuel → s = sCo (u 1) T b k → u2 1 = s.2 → CoI (u 1) k s.2 → RF u u2 → ∃ u', f_X11_collects_11 fuel (nI (bset (Pin (u 1) (nI b)) (rN (u 1)))) s.1 (nI k) u2 = some ((sCo (u 1) T b (rN (u 1))).1, u') ∧ u' 1 = (sCo (u 1) T b (rN (u 1))).2 ∧ RF u u' := by
    intro d
    induction d with
    | zero =>
      intro k fuel u2 s hk hfu hs hR2 hq hF
      obtain ⟨n, rfl⟩ : ∃ n, fuel = n + 1 := ⟨fuel - 1, by omega⟩
      obtain rfl : k = rN (u 1) := by omega
      rw [f_X11_collects_11_s, hR2, hq.1.n, hq.2.1, if_pos (nI_le (Nat.le_refl _) (by omega))]
      exact ⟨u2, by rw [hs], by rw [hR2, hs], hF⟩
    | succ d ih =>
      intro k fuel u2 s hk hfu hs hR2 hq hF
      obtain ⟨n, rfl⟩ : ∃ n, fuel = n + 1 := ⟨fuel - 1, by omega⟩
      have hk2 : k < rN (u 1) := by omega
      have hk8 : k < 8 := by omega
      have hst : sCo (u 1) T b (k + 1) = sCo1 T b k s := by rw [hs]; rfl
      have hpk := hq.2.2.1 k (Nat.le_refl k) hk8
      rw [f_X11_collects_11_s, hR2, hq.1.n, hq.2.1, if_neg (nI_ge hk2 (by omega)), pu_isOf (bset256 h8) hk8, bset_bit, decide_eq_true hk2, Bool.true_and]
      simp only [z_let]
      by_cases h1 : s.2 (25 + 4 * k) = nI b
      · rw [if_pos (show Pin (u 1) (nI b) k = true from decide_eq_true (hpk.symm.trans h1)), pr_of2 hk8, hR2]
        simp only [Option.bind_some]
        obtain ⟨u3, e3, k3, F3⟩ := pr_owesBy (T := T) (u := u2) (by rw [hR2]; exact hq.1) (by rw [hR2]; exact hq.law hT) (x := k) (c := b) (by rw [hR2, hq.2.1]; exact hk2) hb (by rw [hR2]; exact h1) (s.2 5)
        rw [hR2] at k3 e3
        rw [e3]
        simp only [z_b2, Option.bind_some, f_X11_lesser_e, z_min_eq]
        rw [pr_of2 hk8, k3]
        simp only [Option.bind_some]
        rw [show z_min (s.2 (27 + 4 * k)) (sOw s.2 T k b (s.2 5)) = sGiv s.2 T k b from rfl, pr_put2 _ hk8, k3]
        simp only [Option.bind_some, zst_e]
        rw [upd_ne (show 6 ≠ 27 + 4 * k by omega)]
        have e4 : z_up (zst u3 1 (upd s.2 (27 + 4 * k) (s.2 (27 + 4 * k) - sGiv s.2 T k b))) 1 6 (z_min 9999 (s.2 6 + sGiv s.2 T k b)) = zst u3 1 (sPay s.2 T k b) := by rw [z_up_st, zst_zst, zst_e]; rfl
        rw [e4, pr_of2 hk8]
        simp only [Option.bind_some, zst_e]
        rw [sPay_p]
        have hvp : u 1 (25 + 4 * k) = nI b := hpk.symm.trans h1
        have hq2 := hq.s T hk2 hb hvp
        have hs2 : sCo1 T b k s = (s.1 + sGiv s.2 T k b, sPq s.2 T k b) := if_pos (decide_eq_true h1)
        by_cases h0 : s.2 (27 + 4 * k) - sGiv s.2 T k b = 0
        · rw [if_pos h0]
          obtain ⟨p1, p2⟩ := hq.1.pay T (r := k) (b := b) hk8
          have e6 : sPq s.2 T k b = sQ (sPay s.2 T k b) k := if_pos h0
          rw [pr_queues (by rw [zst_e]; exact p1) (by rw [zst_e, p2, hq.2.1]; exact hk2) (by rw [zst_e, sPay_o (by omega) (by omega), h1]; exact pu_m1 (by omega))]
          simp only [Option.bind_some, zst_e, zst_zst, nI_1]
          exact ih (k + 1) n (zst u3 1 (sQ (sPay s.2 T k b) k)) (s.1 + sGiv s.2 T k b, sPq s.2 T k b) (by omega) (by omega) (by rw [← hs2]; exact hst.symm) (by rw [zst_e, e6]) hq2 ((hF.tr F3).st _)
        · rw [if_neg h0, nI_1]
          have e6 : sPq s.2 T k b = sPay s.2 T k b := if_neg h0
          exact ih (k + 1) n (zst u3 1 (sPay s.2 T k b)) (s.1 + sGiv s.2 T k b, sPq s.2 T k b) (by omega) (by omega) (by rw [← hs2]; exact hst.symm) (by rw [zst_e, e6]) hq2 ((hF.tr F3).st _)
      · rw [if_neg (show ¬ Pin (u 1) (nI b) k = true from fun e => h1 (hpk.trans (of_decide_eq_true e))), nI_1]
        have hs2 : sCo1 T b k s = s := if_neg (by simp [Pin, h1])
        exact ih (k + 1) n u2 s (by omega) (by omega) (by rw [hst, hs2]) hR2 hq.m hF
  rw [f_X11_collects_e, pr_those hV, Option.bind_some]
  exact hm (rN (u 1)) 0 5000 u (0, u 1) (by omega) (by omega) rfl rfl (CoI.i hV) RF.rf
/-! who gets in at the bottom -/
def fil1 (v : Nat → Int32) (b : Nat) : Nat → Int32 := if sFW v = -1 then v else if sOpen v b = true then sG v (sFW v).toNatClampNeg (sFi v).toNatClampNeg (nI b) else v
theorem sFW_at {v : Nat → Int32} (h : IV v) (hn : sFW v ≠ -1) : ∃ x a, sFW v = nI x ∧ sFi v = nI a ∧ x < rN v ∧ a < 8 ∧ atR v x a ∧ v (25 + 4 * x) = -1 := by
  have h8 := h.n8
  have hw := h.w8
  unfold sFW at hn ⊢
  rcases zfi_spec (fun i => !decide (v (27 + 4 * (v (57 + i)).toNatClampNeg) ≤ 0)) (wN v) 0 with ⟨h1, -⟩ | ⟨j, -, h2, h3, h4, h5⟩
  · rw [show sFi v = -1 from h1, if_pos rfl] at hn; exact absurd rfl hn
  · rw [show sFi v = nI j from h3, if_neg (pu_m1 (by omega)), nI_clamp (by omega)]
    obtain ⟨x, x1, x2, x3⟩ := h.2.2.1 j (by omega)
    exact ⟨x, j, x2, rfl, x1, by omega, ⟨by omega, x2, fun i hi e => by have := h.2.2.2.1 i j (by omega) (by omega) (e.trans x2.symm); omega⟩, x3⟩
/-- a step of the filling leaves all but the row, a place and the number of those who wait -/
def FiI (v a : Nat → Int32) : Prop := IV a ∧ rN a = rN v ∧ ∀ j, j ≠ 10 → ¬ (25 ≤ j ∧ j < 65) → a j = v j
theorem fil1_I {v : Nat → Int32} (h : IV v) {b : Nat} (hb : b < 8) : FiI v (fil1 v b) := by
  have h8 := h.n8
  unfold fil1
  by_cases hn : sFW v = -1
  · rw [if_pos hn]; exact ⟨h, rfl, fun _ _ _ => rfl⟩
  · rw [if_neg hn]
    obtain ⟨x, a, e1, e2, hx, ha8, ha, hp⟩ := sFW_at h hn
    rw [e1, e2, nI_clamp (by omega), nI_clamp (by omega)]
    split
    · obtain ⟨g1, g2, -⟩ := h.g hx ha hb
      refine ⟨g1, g2, fun j h10 hj => ?_⟩
      have := h.w8
      have := ha.1
      exact sG_o (by omega) h10 (by omega)
    · exact ⟨h, rfl, fun _ _ _ => rfl⟩
theorem FiI.tr {v a c : Nat → Int32} (h : FiI v a) (k : FiI a c) : FiI v c := ⟨k.1, k.2.1.trans h.2.1, fun j a b => (k.2.2 j a b).trans (h.2.2 j a b)⟩
theorem FiI.law {v a : Nat → Int32} (h : FiI v a) {T : zT} (hT : RLw v T) : RLw a T := hT.ex (h.2.2 1 (by omega) (by omega)) (h.2.2 2 (by omega) (by omega)) (fun j h1 h2 => h.2.2 j (by omega) (by omega))
theorem pc_fil1 {u : zU} {w : Nat} {v : Nat → Int32} {L : Nat → Nat} (hR : RW u w v) (hV : IV v) {b : Nat} (hb : b < 8) (n : Nat) {x : Int32} (hx : ¬ (2 : Int32) ≤ x) :
    ∃ u', f_X9_fill_2 w L (n + 1) (nI b) x u = f_X9_fill_2 w L n (nI b) (x + 1) u' ∧ RW u' w (fil1 v b) ∧ Fw w u u' ∧ (∀ j, 17 ≤ j → u' w j = u w j) := by
  have h8 := hV.n8
  rw [f_X9_fill_2_s, if_neg hx, pc_firstMoney hR hV]
  simp only [Option.bind_some]
  unfold fil1
  by_cases hn : sFW v = -1
  · rw [if_pos hn, if_pos hn]; exact ⟨u, rfl, hR, Fw.rf, fun _ _ => rfl⟩
  · rw [if_neg hn, if_neg hn, pc_isOpen hR hV L hb]
    obtain ⟨y, a, e1, e2, hy, ha8, ha, hp⟩ := sFW_at hV hn
    rw [e1, e2, nI_clamp (by omega), nI_clamp (by omega)]
    simp only [Option.bind_some]
    by_cases ho : sOpen v b = true
    · rw [if_pos ho, if_pos ho]
      obtain ⟨u', e, R, F, j⟩ := pc_getIn hR hV L hy ha (nI b)
      rw [e]
      exact ⟨u', rfl, R, F, j⟩
    · rw [if_neg ho, if_neg ho]; exact ⟨u, rfl, hR, Fw.rf, fun _ _ => rfl⟩
def sFill (v : Nat → Int32) (b : Nat) : Nat → Int32 := fil1 (fil1 v b) b
theorem pc_fill {u : zU} {w : Nat} {v : Nat → Int32} (L : Nat → Nat) (hR : RW u w v) (hV : IV v) {b : Nat} (hb : b < 8) : ∃ u', f_X9_fill w L (nI b) u = some u' ∧ RW u' w (sFill v b) ∧ Fw w u u' ∧ (∀ j, 17 ≤ j → u' w j = u w j) := by
  rw [f_X9_fill_e]
  obtain ⟨u1, e1, R1, F1, j1⟩ := pc_fil1 (L := L) hR hV hb 4999 (x := 0) (by decide)
  obtain ⟨u2, e2, R2, F2, j2⟩ := pc_fil1 (L := L) R1 (fil1_I hV hb).1 hb 4998 (x := 0 + 1) (by decide)
  rw [e1, e2, f_X9_fill_2_s w L 4997, if_pos (by decide)]
  exact ⟨u2, rfl, R2, F1.tr F2, fun j hj => (j2 j hj).trans (j1 j hj)⟩
