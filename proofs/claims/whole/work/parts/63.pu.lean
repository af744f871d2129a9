/-! PURE, 14: no cradle holds more than two, through a stop -/
theorem bcnt_mono {P P' : Nat → Bool} : ∀ N, (∀ k, k < N → P k = true → P' k = true) → bcnt P N ≤ bcnt P' N
  | 0, _ => Nat.le_refl 0
  | N + 1, h => by
    have := bcnt_mono N (fun k hk => h k (by omega))
    rw [bcnt_s, bcnt_s]
    by_cases e : P N = true
    · rw [if_pos e, if_pos (h N (by omega) e)]; omega
    · rw [if_neg e]; split <;> omega
theorem CAP.q {v : Nat → Int32} (h : CAP v) (hV : IV v) {x : Nat} (hx : x < rN v) (hs : v (25 + 4 * x) ≠ -1) : CAP (sQ v x) := by
  have h8 := hV.n8
  have hw := hV.room hx hs
  refine ⟨fun c hc => ?_, fun r hr => by rw [(hV.q hx hs).2] at hr; rw [sQ_o (by omega) (by omega) (by omega)]; exact h.2 r hr⟩
  rw [(hV.q hx hs).2]
  refine Nat.le_trans (bcnt_mono _ (fun k hk hp => ?_)) (h.1 c hc)
  by_cases e : k = x
  · subst e
    have := of_decide_eq_true hp
    rw [sQ_p (by omega)] at this
    exact absurd this.symm (pu_m1 (by omega))
  · unfold Pin at hp ⊢
    rw [sQ_o (by omega) (by omega) (by omega)] at hp
    exact hp
theorem CAP.g {v : Nat → Int32} (h : CAP v) (hV : IV v) {x a b : Nat} (hx : x < rN v) (ha : atR v x a) (hb : b < 8) (hp : v (25 + 4 * x) = -1) (ho : bcnt (Pin v (nI b)) (rN v) < 2) : CAP (sG v x a (nI b)) := by
  have h8 := hV.n8
  have hw := hV.w8
  have ha1 := ha.1
  refine ⟨fun c hc => ?_, fun r hr => by rw [(hV.g hx ha hb).2.1] at hr; rw [sG_o (by omega) (by omega) (by omega)]; exact h.2 r hr⟩
  rw [(hV.g hx ha hb).2.1]
  have hoth : ∀ r, r < rN v → r ≠ x → sG v x a (nI b) (25 + 4 * r) = v (25 + 4 * r) := fun r hr hn => sG_o (by omega) (by omega) (by omega)
  by_cases e : c = b
  · subst e
    have := bcnt_up (Pin v (nI c)) (Pin (sG v x a (nI c)) (nI c)) (x := x) (rN v) (fun r hr hn => by unfold Pin; rw [hoth r hr hn]) hx (decide_eq_false (by rw [hp]; exact fun e => pu_m1 (by omega) e.symm)) (decide_eq_true sG_p)
    omega
  · refine Nat.le_trans (bcnt_mono _ (fun k hk hq => ?_)) (h.1 c hc)
    by_cases e2 : k = x
    · subst e2
      have := of_decide_eq_true hq
      rw [sG_p, nI_eq (by omega) (by omega)] at this
      omega
    · unfold Pin at hq ⊢
      rw [hoth k hk e2] at hq
      exact hq
theorem CAP.qa {v : Nat → Int32} (h : CAP v) (hV : IV v) (P : Nat → Bool) (hs : ∀ r, r < rN v → P r = true → v (25 + 4 * r) ≠ -1) : CAP (sQA P (rN v) v) := by
  have h8 := hV.n8
  have : QA v (rN v) (sQA P (rN v) v) ∧ CAP (sQA P (rN v) v) := by
    refine zfo_inv (fun k a => QA v k a ∧ CAP a) ⟨QA.i hV, h⟩ _ (fun k a hk hq => ?_)
    show QA v (k + 1) (if _ then _ else _) ∧ CAP (if _ then _ else _)
    split
    · rename_i hP
      refine ⟨hq.1.s hk (hs k hk hP), hq.2.q hq.1.1 (by rw [hq.1.2.1]; exact hk) ?_⟩
      rw [hq.1.2.2 _ (by omega) (by omega) (fun r hr => by omega)]
      exact hs k hk hP
    · exact ⟨hq.1.m, hq.2⟩
  exact this.2
theorem CAP.blow {v : Nat → Int32} (h : CAP v) (hV : IV v) : CAP (sBlow v) := by
  have h8 := hV.n8
  have hd2 : ∀ j, j ≠ 12 → sD (sD v) j = v j := fun j hj => by unfold sD; rw [upd_ne hj, upd_ne hj]
  have hd : ∀ j, j ≠ 12 → sD v j = v j := fun j hj => upd_ne hj
  have hV1 := hV.d.1
  obtain ⟨b1, b2⟩ := hV1.b3
  have hn : rN (sB3 (sD v)) = rN v := b2.trans hV.d.2.1
  have hh := (sHit_c (sD v)).2.2
  unfold sBlow
  by_cases hc : z_rem (rnd v) 100 < v 8
  · rw [if_pos hc]
    have h3 : CAP (sB3 (sD v)) := h.ex hn (fun r hr => by
      unfold sB3
      rw [upd_ne (by omega), upd_ne (by omega)]
      exact ⟨hd2 _ (by omega), hd2 _ (by omega)⟩)
    have := h3.qa b1 (fun r => decide (sB3 (sD v) (17 + sHit (sD v)) = 0) && Pin (sB3 (sD v)) (nI (sHit (sD v))) r) (fun r hr hP => by
      rw [Bool.and_eq_true] at hP
      rw [show sB3 (sD v) (25 + 4 * r) = nI (sHit (sD v)) from of_decide_eq_true hP.2]
      exact pu_m1 (by omega))
    rw [hn] at this
    exact this
  · rw [if_neg hc]
    exact h.ex hV.d.2.1 (fun r hr => ⟨hd _ (by omega), hd _ (by omega)⟩)
theorem CAP.co {v : Nat → Int32} (h : CAP v) (hV : IV v) (T : zT) {b : Nat} (hb : b < 8) : ∀ k, k ≤ rN v → CAP (sCo v T b k).2
  | 0, _ => h
  | k + 1, hk => by
    have ih := CAP.co h hV T hb k (by omega)
    have hI := sCC_I hV T hb k (by omega)
    have h8 := hV.n8
    rw [sCo_s]
    unfold sCo1
    by_cases hp : Pin (sCo v T b k).2 (nI b) k = true
    · rw [if_pos hp]
      obtain ⟨p1, p2⟩ := hI.1.pay T (r := k) (b := b) (by omega)
      have hc : CAP (sPay (sCo v T b k).2 T k b) := ih.ex p2 (fun r hr => ⟨sPay_o (by omega) (by omega), sPay_o (by omega) (by omega)⟩)
      show CAP (sPq (sCo v T b k).2 T k b)
      unfold sPq
      split
      · refine hc.q p1 (by rw [p2, hI.2.1]; omega) ?_
        rw [sPay_o (by omega) (by omega), of_decide_eq_true hp]
        exact pu_m1 (by omega)
      · exact hc
    · rw [if_neg hp]; exact ih
theorem CAP.f1 {v : Nat → Int32} (h : CAP v) (hV : IV v) {b : Nat} (hb : b < 8) : CAP (fil1 v b) := by
  have h8 := hV.n8
  unfold fil1
  by_cases hn : sFW v = -1
  · rw [if_pos hn]; exact h
  · rw [if_neg hn]
    obtain ⟨x, a, e1, e2, hx, ha8, ha, hp⟩ := sFW_at hV hn
    rw [e1, e2, nI_clamp (by omega), nI_clamp (by omega)]
    split
    · rename_i ho
      unfold sOpen at ho
      rw [Bool.and_eq_true] at ho
      exact h.g hV hx ha hb hp (of_decide_eq_true ho.2)
    · exact h
theorem CAP.it {v : Nat → Int32} (h : CAP v) (hV : IV v) (T : zT) (e : Nat) (wd : Bool) : CAP (rIt v T e wd) := by
  have h8 := hV.n8
  obtain ⟨a1, a2, -⟩ := hV.v1 T e
  obtain ⟨b1, b2, -⟩ := a1.v2
  have hb := sBt_lt (sV1 v T e)
  have c1 : CAP (sV1 v T e) := h.ex a2 (fun r hr => ⟨upd_ne (by omega), upd_ne (by omega)⟩)
  have c2 : CAP (sV2 (sV1 v T e)) := c1.ex b2 (fun r hr => ⟨sV2_o a1 (by omega), sV2_o a1 (by omega)⟩)
  have c3 := c2.co b1 T hb (rN (sV2 (sV1 v T e))) (Nat.le_refl _)
  have i3 := sCC_I b1 T hb (rN (sV2 (sV1 v T e))) (Nat.le_refl _)
  have c4 : CAP (sH4 v T e) := by
    unfold sH4 sFill sCC
    exact (c3.f1 i3.1 hb).f1 (fil1_I i3.1 hb).1 hb
  have c5 : CAP (sH5 v T e wd) := by
    unfold sH5
    split
    · exact c4.blow (sH4_I hV T e).1.1
    · exact c4
  have i5 := (sH5_I hV T e wd).1
  obtain ⟨r1, r2, -⟩ := rIt_I hV T e wd
  refine c5.ex (r2.trans i5.2.1.symm) (fun r hr => ?_)
  rw [i5.2.1] at hr
  rw [rIt_o v T e wd (by omega) (by omega), rIt_o v T e wd (by omega) (by omega)]
  unfold sH
  rw [upd_ne (by omega), upd_ne (by omega)]
  exact ⟨rfl, rfl⟩
