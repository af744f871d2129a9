/-! PURE, 7: draws, the first who waits with a purse, the wind -/
theorem IV.ex {v v' : Nat → Int32} (h : IV v) (he : ∀ k, (3 ≤ k ∧ k ≤ 10) ∨ (17 ≤ k ∧ k < 65) → v' k = v k) : IV v' ∧ rN v' = rN v ∧ wN v' = wN v ∧ tP v' = tP v := by
  have h8 := h.n8
  have hw := h.w8
  have e3 := he 3 (by omega)
  have e4 := he 4 (by omega)
  have e10 := he 10 (by omega)
  have eN := rN_of e3
  have eT := tP_of e4
  have eW : wN v' = wN v := by unfold wN; rw [e10]
  have epl : ∀ r, r < 8 → v' (25 + 4 * r) = v (25 + 4 * r) := fun r hr => he _ (by omega)
  have ero : ∀ i, i < 8 → v' (57 + i) = v (57 + i) := fun i hi => he _ (by omega)
  obtain ⟨c1, c2, c3⟩ := h.2.2
  refine ⟨⟨⟨⟨by rw [e3, eN]; exact h.n, by rw [eN]; exact h8⟩, ⟨by rw [e4, eT]; exact h.t, by rw [eT]; exact h.t8⟩, ⟨by rw [e10, eW]; exact h.w, ?_⟩, fun r hr => ?_⟩, ?_, fun i hi => ?_, fun i j hi hj hij => ?_, fun x hx hp => ?_⟩, eN, eW, eT⟩
  · rw [eW, eN, h.wc]
    exact bcnt_ext _ (fun k hk => by rw [epl k (by omega)])
  · rw [eN] at hr
    rw [epl r (by omega)]; exact h.pl hr
  · obtain ⟨h1, h2, h3, h4, h5, h6⟩ := h.2.1
    refine ⟨fun r hr => ?_, by rw [he 5 (by omega)]; exact h2, by rw [he 6 (by omega)]; exact h3, by rw [he 7 (by omega)]; exact h4, by rw [he 8 (by omega)]; exact h5, by rw [he 9 (by omega)]; exact h6⟩
    rw [he (26 + 4 * r) (by omega), he (27 + 4 * r) (by omega), he (28 + 4 * r) (by omega), he (17 + r) (by omega)]
    exact h1 r hr
  · rw [eW] at hi
    obtain ⟨x, x1, x2, x3⟩ := c1 i hi
    exact ⟨x, by rw [eN]; exact x1, by rw [ero i (by omega)]; exact x2, by rw [epl x (by omega)]; exact x3⟩
  · rw [eW] at hi hj
    rw [ero i (by omega), ero j (by omega)] at hij
    exact c2 i j hi hj hij
  · rw [eN] at hx
    rw [epl x (by omega)] at hp
    obtain ⟨i, i1, i2⟩ := c3 x hx hp
    exact ⟨i, by rw [eW]; exact i1, by rw [ero i (by omega)]; exact i2⟩
def rnd (v : Nat → Int32) : Int32 := (z_ushr (1103515245 * v 12 + 12345) 16) &&& 32767
def sD (v : Nat → Int32) : Nat → Int32 := upd v 12 (1103515245 * v 12 + 12345)
theorem rnd_lt (v : Nat → Int32) : ∃ d, d < 32768 ∧ rnd v = nI d := pk_andE _ 15 (by decide)
theorem pc_draw {u : zU} {w : Nat} {v : Nat → Int32} (hR : RW u w v) (L : Nat → Nat) : ∃ u', f_X9_draw w L u = (rnd v, u') ∧ RW u' w (sD v) ∧ Fw w u u' ∧ (∀ j, 17 ≤ j → u' w j = u w j) ∧ ∀ r, r ≠ w → u' r = u r := by
  refine ⟨z_up u w 16 (1103515245 * v 12 + 12345), ?_, hR.u16 _, Fw.rf.up (by omega), fun j hj => by rw [z_up_eq, upd_ne (by omega)], fun r hr => z_up_ne hr⟩
  rw [f_X9_draw_e, hR.s16]
  simp only [z_let, z_up_eq, upd_eq]
  rfl
theorem pr_draw {n : Int32} (hn : n ≠ 0) (u : zU) : f_X11_draw n u = some (z_rem (rnd (u 1)) n, zst u 1 (sD (u 1))) := by
  rw [f_X11_draw_e]
  simp only [z_let]
  rw [if_pos hn]
  rfl
theorem IV.d {v : Nat → Int32} (h : IV v) : IV (sD v) ∧ rN (sD v) = rN v ∧ wN (sD v) = wN v ∧ tP (sD v) = tP v := h.ex (fun k hk => by unfold sD; rw [upd_ne (by omega)])
theorem IV.pu {v : Nat → Int32} (h : IV v) {r : Nat} (hr : r < 8) : sm (v (27 + 4 * r)) 999 := (h.2.1.1 r hr).2.1
theorem IV.we {v : Nat → Int32} (h : IV v) {r : Nat} (hr : r < 8) : sm (v (26 + 4 * r)) 9 := (h.2.1.1 r hr).1
theorem IV.pa {v : Nat → Int32} (h : IV v) {r : Nat} (hr : r < 8) : sm (v (28 + 4 * r)) 3 := (h.2.1.1 r hr).2.2.1
theorem IV.bo {v : Nat → Int32} (h : IV v) {r : Nat} (hr : r < 8) : sm (v (17 + r)) 9 := (h.2.1.1 r hr).2.2.2
theorem IV.v5 {v : Nat → Int32} (h : IV v) : sm (v 5) 99 := h.2.1.2.1
theorem IV.v6 {v : Nat → Int32} (h : IV v) : sm (v 6) 9999 := h.2.1.2.2.1
theorem IV.v7 {v : Nat → Int32} (h : IV v) : ∃ k, 1 ≤ k ∧ k ≤ 8 ∧ v 7 = nI k := h.2.1.2.2.2.1
theorem IV.v8 {v : Nat → Int32} (h : IV v) : sm (v 8) 100 := h.2.1.2.2.2.2.1
theorem IV.v9 {v : Nat → Int32} (h : IV v) : sm (v 9) 9999 := h.2.1.2.2.2.2.2
/-- the first of the row with a purse: its place in the row -/
def sFi (v : Nat → Int32) : Int32 := zfi (fun i => !decide (v (27 + 4 * (v (57 + i)).toNatClampNeg) ≤ 0)) (wN v) 0
def sFW (v : Nat → Int32) : Int32 := if sFi v = -1 then -1 else v (57 + (sFi v).toNatClampNeg)
theorem sFW_spec {v : Nat → Int32} (h : IV v) : sFW v = -1 ∨ ∃ x a, sFW v = nI x ∧ x < rN v ∧ atR v x a ∧ v (25 + 4 * x) = -1 := by
  have h8 := h.n8
  have hw := h.w8
  unfold sFW
  rcases zfi_spec (fun i => !decide (v (27 + 4 * (v (57 + i)).toNatClampNeg) ≤ 0)) (wN v) 0 with ⟨h1, -⟩ | ⟨j, -, h2, h3, h4, h5⟩
  · left; rw [show sFi v = -1 from h1, if_pos rfl]
  · right
    rw [show sFi v = nI j from h3, if_neg (pu_m1 (by omega)), nI_clamp (by omega)]
    obtain ⟨x, x1, x2, x3⟩ := h.2.2.1 j (by omega)
    exact ⟨x, j, x2, x1, ⟨by omega, x2, fun i hi e => by have := h.2.2.2.1 i j (by omega) (by omega) (e.trans x2.symm); omega⟩, x3⟩
theorem pc_firstMoney {u : zU} {w : Nat} {v : Nat → Int32} (hR : RW u w v) (hV : IV v) (L : Nat → Nat) : f_X9_firstWithMoney w L u = some (sFW v) := by
  have h8 := hV.n8
  have hw := hV.w8
  rw [f_X9_firstWithMoney_e]
  refine (pu_find (fun n y => f_X9_firstWithMoney_2 w L n y u) (wN v) (fun i => !decide (v (27 + 4 * (v (57 + i)).toNatClampNeg) ≤ 0)) (fun y => some (if y = -1 then -1 else v (57 + y.toNatClampNeg))) (fun n k hk => ?_) (fun n => ?_) 5000 (by omega)).trans rfl
  · show f_X9_firstWithMoney_2 w L (n + 1) (nI k) u = _
    obtain ⟨x, x1, x2, x3⟩ := hV.2.2.1 k hk
    rw [f_X9_firstWithMoney_2_s, hR.s9, hV.w, if_neg (nI_ge hk (by omega)), if_pos (pu_in (by omega) (by decide))]
    simp only [z_let, nI_clamp (show k < 2 ^ 31 by omega), hR.ro (show k < 8 by omega), x2]
    rw [pu_and7 x (by omega), if_pos (pu_in (by omega) (by decide)), if_pos (pu_in (by omega) (by decide)), nI_clamp (show x < 2 ^ 31 by omega), hR.pu (by omega), nI_1, if_neg (pu_m1 (by omega))]
    by_cases hp : v (27 + 4 * x) ≤ 0
    · rw [if_pos hp, decide_eq_true hp]; rfl
    · rw [if_neg hp, decide_eq_false hp]; rfl
  · show f_X9_firstWithMoney_2 w L (n + 1) (nI (wN v)) u = _
    rw [f_X9_firstWithMoney_2_s, hR.s9, hV.w, if_pos (nI_le (Nat.le_refl _) (by omega)), if_pos rfl]
theorem pr_firstWaiting {u : zU} (hV : IV (u 1)) : f_X11_firstWaiting u = some (sFW (u 1)) := by
  have h8 := hV.n8
  have hw := hV.w8
  rw [f_X11_firstWaiting_e]
  refine (pu_find (fun n y => f_X11_firstWaiting_2 n y u) (wN (u 1)) (fun i => !decide (u 1 (27 + 4 * (u 1 (57 + i)).toNatClampNeg) ≤ 0)) (fun y => some (if y = -1 then -1 else u 1 (57 + y.toNatClampNeg))) (fun n k hk => ?_) (fun n => ?_) 5000 (by omega)).trans rfl
  · show f_X11_firstWaiting_2 (n + 1) (nI k) u = _
    obtain ⟨x, x1, x2, x3⟩ := hV.2.2.1 k hk
    rw [f_X11_firstWaiting_2_s, hV.w, if_neg (nI_ge hk (by omega)), pu_l57, if_pos (pu_in (by omega) (by decide))]
    simp only [z_let, nI_clamp (show 57 + k < 2 ^ 31 by omega), nI_clamp (show k < 2 ^ 31 by omega), x2]
    rw [pr_of2 (by omega)]
    simp only [Option.bind_some, nI_clamp (show x < 2 ^ 31 by omega)]
    rw [if_pos (pu_in (by omega) (by decide)), nI_1, if_neg (pu_m1 (by omega))]
    by_cases hp : u 1 (27 + 4 * x) ≤ 0
    · rw [if_pos hp, decide_eq_true hp]; rfl
    · rw [if_neg hp, decide_eq_false hp]; rfl
  · show f_X11_firstWaiting_2 (n + 1) (nI (wN (u 1))) u = _
    rw [f_X11_firstWaiting_2_s, hV.w, if_pos (nI_le (Nat.le_refl _) (by omega)), if_pos rfl]
/-- all that P names are queued, by their numbers -/
def sQA (P : Nat → Bool) (n : Nat) (v : Nat → Int32) : Nat → Int32 := zfo (fun r a => if P r = true then sQ a r else a) n v
/-- as far as k: a is v but for the row and the places below k -/
def QA (v : Nat → Int32) (k : Nat) (a : Nat → Int32) : Prop := IV a ∧ rN a = rN v ∧ ∀ j, j ≠ 10 → (j < 57 ∨ 65 ≤ j) → (∀ r, r < k → j ≠ 25 + 4 * r) → a j = v j
theorem QA.s {v a : Nat → Int32} {k : Nat} (h : QA v k a) (hk : k < rN v) (hs : v (25 + 4 * k) ≠ -1) : QA v (k + 1) (sQ a k) := by
  have h8 := h.1.n8
  have h1 := h.2.1
  have hp : a (25 + 4 * k) = v (25 + 4 * k) := h.2.2 _ (by omega) (by omega) (fun r hr => by omega)
  have hq := h.1.q (x := k) (by omega) (by rw [hp]; exact hs)
  have hw := h.1.room (x := k) (by omega) (by rw [hp]; exact hs)
  refine ⟨hq.1, hq.2.trans h1, fun j h10 h57 hr => ?_⟩
  rw [sQ_o (hr k (by omega)) (by omega) h10]
  exact h.2.2 j h10 h57 (fun r hr2 => hr r (by omega))
theorem QA.m {v a : Nat → Int32} {k : Nat} (h : QA v k a) : QA v (k + 1) a := ⟨h.1, h.2.1, fun j a b c => h.2.2 j a b (fun r hr => c r (by omega))⟩
theorem QA.i {v : Nat → Int32} (h : IV v) : QA v 0 v := ⟨h, rfl, fun _ _ _ _ => rfl⟩
theorem pr_blows72 {u : zU} {v : Nat → Int32} (hV : IV v) {m : Nat} (hm : m < 256) (hs : ∀ r, r < rN v → m.testBit r = true → v (25 + 4 * r) ≠ -1) : f_X11_blows_72 5000 (nI m) 0 (zst u 1 v) = some (zst u 1 (sQA (fun r => m.testBit r) (rN v) v)) ∧ QA v (rN v) (sQA (fun r => m.testBit r) (rN v) v) := by
  have h8 := hV.n8
  refine pu_loopI (fun n a x => f_X11_blows_72 n (nI m) x (zst u 1 a)) (rN v) (fun r a => if m.testBit r = true then sQ a r else a) (fun a => some (zst u 1 a)) (QA v) (QA.i hV) (fun n k a hk hq => ?_) (fun n a hq => ?_) 5000 (by omega)
  · have e3 : a 3 = nI (rN v) := by rw [hq.1.n, hq.2.1]
    have hpk : a (25 + 4 * k) = v (25 + 4 * k) := hq.2.2 _ (by omega) (by omega) (fun r hr => by omega)
    refine ⟨?_, ?_⟩
    · show f_X11_blows_72 (n + 1) (nI m) (nI k) (zst u 1 a) = f_X11_blows_72 n (nI m) (nI (k + 1)) (zst u 1 (if m.testBit k = true then sQ a k else a))
      rw [f_X11_blows_72_s, zst_e, e3, if_neg (nI_ge hk (by omega)), pu_isOf hm (by omega)]
      simp only [z_let]
      by_cases hb : m.testBit k = true
      · rw [if_pos hb, if_pos hb, pr_queues (by rw [zst_e]; exact hq.1) (by rw [zst_e, hq.2.1]; exact hk) (by rw [zst_e, hpk]; exact hs k hk hb)]
        simp only [Option.bind_some, zst_zst, zst_e, nI_1]
      · rw [if_neg hb, if_neg hb, nI_1]
    · show QA v (k + 1) (if m.testBit k = true then sQ a k else a)
      split
      · exact hq.s hk (hs k hk ‹_›)
      · exact hq.m
  · show f_X11_blows_72 (n + 1) (nI m) (nI (rN v)) (zst u 1 a) = _
    rw [f_X11_blows_72_s, zst_e, hq.1.n, hq.2.1, if_pos (nI_le (Nat.le_refl _) (by omega))]
theorem pc_blow43 {u : zU} {w : Nat} {v : Nat → Int32} (hR : RW u w v) (hV : IV v) (L : Nat → Nat) {h : Nat} (hh : h < 8) : ∃ u', f_X9_blow_43 w L 5000 (nI h) 0 u = some u' ∧ RW u' w (sQA (fun r => decide (v (17 + h) = 0) && Pin v (nI h) r) (rN v) v) ∧ Fw w u u' ∧ ∀ j, 17 ≤ j → u' w j = u w j := by
  have h8 := hV.n8
  have hm : ∀ d k fuel u2 a, k + d = rN v → d < fuel → a = sQA (fun r => decide (v (17 + h) = 0) && Pin v (nI h) r) k v → RW u2 w a → QA v k a → Fw w u u2 → (∀ j, 17 ≤ j → u2 w j = u w j) → ∃ u', f_X9_blow_43 w L fuel (nI h) (nI k) u2 = some u' ∧ RW u' w (sQA (fun r => decide (v (17 + h) = 0) && Pin v (nI h) r) (rN v) v) ∧ Fw w u u' ∧ ∀ j, 17 ≤ j → u' w j = u w j := by
    intro d
    induction d with
    | zero =>
      intro k fuel u2 a hk hfu ha hR2 hq hF hj
      obtain ⟨n, rfl⟩ : ∃ n, fuel = n + 1 := ⟨fuel - 1, by omega⟩
      obtain rfl : k = rN v := by omega
      rw [f_X9_blow_43_s, hR2.s8, hq.1.n, hq.2.1, if_pos (nI_le (Nat.le_refl _) (by omega))]
      exact ⟨u2, rfl, by rw [← ha]; exact hR2, hF, hj⟩
    | succ d ih =>
      intro k fuel u2 a hk hfu ha hR2 hq hF hj
      obtain ⟨n, rfl⟩ : ∃ n, fuel = n + 1 := ⟨fuel - 1, by omega⟩
      have hk2 : k < rN v := by omega
      have hb : a (17 + h) = v (17 + h) := hq.2.2 _ (by omega) (by omega) (fun r hr => by omega)
      have hp : a (25 + 4 * k) = v (25 + 4 * k) := hq.2.2 _ (by omega) (by omega) (fun r hr => by omega)
      have hst : sQA (fun r => decide (v (17 + h) = 0) && Pin v (nI h) r) (k + 1) v = if (decide (v (17 + h) = 0) && Pin v (nI h) k) = true then sQ a k else a := by rw [ha]; rfl
      rw [f_X9_blow_43_s, hR2.s8, hq.1.n, hq.2.1, if_neg (nI_ge hk2 (by omega)), if_pos (pu_in hh (by decide))]
      simp only [z_let]
      rw [nI_clamp (by omega), hR2.bo hh, hb, if_pos (pu_in (show k < 8 by omega) (by decide)), nI_clamp (show k < 2 ^ 31 by omega), hR2.pl (by omega), hp, nI_1]
      by_cases h0 : v (17 + h) = 0
      · rw [if_pos h0]
        by_cases h1 : v (25 + 4 * k) = nI h
        · have hs : v (25 + 4 * k) ≠ -1 := by rw [h1]; exact pu_m1 (by omega)
          obtain ⟨u3, e3, R3, F3, j3⟩ := pc_getOff hR2 hq.1 L (x := k) (by rw [hq.2.1]; exact hk2) (by rw [hp]; exact hs)
          rw [if_pos h1, e3]
          simp only [Option.bind_some]
          rw [if_pos (by simp [h0, Pin, h1])] at hst
          exact ih (k + 1) n u3 (sQ a k) (by omega) (by omega) hst.symm R3 (hq.s hk2 hs) (hF.tr F3) (fun j hj2 => (j3 j hj2).trans (hj j hj2))
        · rw [if_neg h1]
          rw [if_neg (by simp [Pin, h1])] at hst
          exact ih (k + 1) n u2 a (by omega) (by omega) hst.symm hR2 hq.m hF hj
      · rw [if_neg h0]
        rw [if_neg (by simp [h0])] at hst
        exact ih (k + 1) n u2 a (by omega) (by omega) hst.symm hR2 hq.m hF hj
  exact hm (rN v) 0 5000 u v (by omega) (by omega) rfl hR (QA.i hV) Fw.rf (fun _ _ => rfl)
