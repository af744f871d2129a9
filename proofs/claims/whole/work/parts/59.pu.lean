/-! PURE, 10: a stop, on both sides -/
theorem IV.ut {v : Nat → Int32} (h : IV v) {t : Nat} (ht : t < 8) : IV (upd v 4 (nI t)) ∧ rN (upd v 4 (nI t)) = rN v ∧ wN (upd v 4 (nI t)) = wN v ∧ tP (upd v 4 (nI t)) = t := by
  have h8 := h.n8
  have hw := h.w8
  have he : ∀ k, k ≠ 4 → upd v 4 (nI t) k = v k := fun k hk => upd_ne hk
  have e3 := he 3 (by omega)
  have e10 := he 10 (by omega)
  have eN := rN_of e3
  have e4 : upd v 4 (nI t) 4 = nI t := upd_eq
  have eT : tP (upd v 4 (nI t)) = t := by unfold tP; rw [e4]; exact nI_clamp (by omega)
  have eW : wN (upd v 4 (nI t)) = wN v := by unfold wN; rw [e10]
  have epl : ∀ r, r < 8 → upd v 4 (nI t) (25 + 4 * r) = v (25 + 4 * r) := fun r hr => he _ (by omega)
  have ero : ∀ i, i < 8 → upd v 4 (nI t) (57 + i) = v (57 + i) := fun i hi => he _ (by omega)
  obtain ⟨c1, c2, c3⟩ := h.2.2
  refine ⟨⟨⟨⟨by rw [e3, eN]; exact h.n, by rw [eN]; exact h8⟩, ⟨by rw [e4, eT], by rw [eT]; exact ht⟩, ⟨by rw [e10, eW]; exact h.w, ?_⟩, fun r hr => ?_⟩, ?_, fun i hi => ?_, fun i j hi hj hij => ?_, fun x hx hp => ?_⟩, eN, eW, eT⟩
  · rw [eW, eN, h.wc]
    exact bcnt_ext _ (fun k hk => by rw [epl k (by omega)])
  · rw [eN] at hr
    rw [epl r (by omega)]; exact h.pl hr
  · have o : okb 4 (nI t) := ⟨fun r _ _ => by omega, fun _ _ _ => by omega, fun r _ _ => by omega, fun _ _ _ => by omega, fun _ => by omega, fun _ => by omega, fun _ => by omega, fun _ => by omega, fun _ => by omega⟩
    exact h.2.1.up o
  · rw [eW] at hi
    obtain ⟨x, x1, x2, x3⟩ := c1 i hi
    exact ⟨x, by rw [eN]; exact x1, by rw [ero i (by omega)]; exact x2, by rw [epl x (by omega)]; exact x3⟩
  · rw [eW] at hi hj
    rw [ero i (by omega), ero j (by omega)] at hij
    exact c2 i j hi hj hij
  · rw [eN] at hx
    rw [epl x (by omega)] at hp
    obtain ⟨i, i1, i2⟩ := c3 x hx hp
    exact ⟨i, by rw [eW]; exact i1, by rw [ero i (by omega)]; exact i2⟩
/-! the reference's log -/
theorem zst_same (u : zU) (r : Nat) : zst u r (u r) = u := by
  funext r'
  unfold zst
  split
  · subst_vars; rfl
  · rfl
def sLog (v : Nat → Int32) (g p : Int32) : Nat → Int32 := fun k => if k = 65 then v 9 else if k = 66 then v 4 else if k = 67 then g else if k = 68 then p else if 69 ≤ k ∧ k < 305 then v (k - 4) else if k = 11 then z_min 60 (v 11 + 1) else v k
def sLg (v : Nat → Int32) (k : Nat) : Nat → Int32 := fun j => if 65 + k < j ∧ j < 305 then v (j - 4) else v j
theorem pr_logs (u : zU) (g p : Int32) : f_X11_logs g p u = some (zst u 1 (sLog (u 1) g p)) := by
  have hm : ∀ d k fuel, k = d + 3 → k < 240 → d < fuel → f_X11_logs_4 fuel g p (nI k) (zst u 1 (sLg (u 1) k)) = some (zst u 1 (sLog (u 1) g p)) := by
    intro d
    induction d with
    | zero =>
      intro k fuel hk h240 hfu
      obtain ⟨n, rfl⟩ : ∃ n, fuel = n + 1 := ⟨fuel - 1, by omega⟩
      subst hk
      rw [f_X11_logs_4_s, if_pos (by decide)]
      simp only [z_let, f_X11_lesser_e, z_min_eq, z_up_st, zst_zst, zst_e]
      congr 2
      funext j
      unfold upd sLog sLg
      by_cases h11 : j = 11
      · subst h11; rfl
      · rw [if_neg h11]
        by_cases h68 : j = 68
        · subst h68; rfl
        · by_cases h67 : j = 67
          · subst h67; rfl
          · by_cases h66 : j = 66
            · subst h66; rfl
            · by_cases h65 : j = 65
              · subst h65; rfl
              · rw [if_neg h68, if_neg h67, if_neg h66, if_neg h65, if_neg h65, if_neg h66, if_neg h67, if_neg h68, if_neg h11]
                by_cases hj : 69 ≤ j ∧ j < 305
                · rw [if_pos hj, if_pos (by omega)]
                · rw [if_neg hj, if_neg (by omega)]
    | succ d ih =>
      intro k fuel hk h240 hfu
      obtain ⟨n, rfl⟩ : ∃ n, fuel = n + 1 := ⟨fuel - 1, by omega⟩
      rw [f_X11_logs_4_s, if_neg (show ¬ nI k < (4 : Int32) from nI_nlt (b := 4) (by omega) (by omega)), pu_l65]
      rw [show nI (65 + k) - (4 : Int32) = nI (65 + k - 4) from pk_sub (b := 4) (by omega), if_pos (pu_in (by omega) (by decide))]
      simp only [z_let]
      rw [if_pos (pu_in (by omega) (by decide)), nI_clamp (by omega), nI_clamp (by omega), z_up_st, zst_zst, zst_e]
      have e : upd (sLg (u 1) k) (65 + k) (sLg (u 1) k (65 + k - 4)) = sLg (u 1) (k - 1) := by
        funext j
        unfold upd sLg
        by_cases h1 : j = 65 + k
        · subst h1; rw [if_pos rfl, if_neg (by omega), if_pos (by omega)]
        · rw [if_neg h1]
          by_cases h2 : 65 + k < j ∧ j < 305
          · rw [if_pos h2, if_pos (by omega)]
          · rw [if_neg h2, if_neg (by omega)]
      rw [e, show nI k + (-1 : Int32) = nI (k - 1) by rw [show k = (k - 1) + 1 by omega, pk_m1]; congr 1]
      exact ih (k - 1) n (by omega) (by omega) (by omega)
  have h := hm 236 239 5000 rfl (by decide) (by decide)
  have e : sLg (u 1) 239 = u 1 := by funext j; unfold sLg; rw [if_neg (by omega)]
  rw [e, zst_same] at h
  rw [f_X11_logs_e]
  exact h
/-! the reference's filling, and the end of a stop -/
def pEnd (K : Int32 → Int32 → Int32 → Int32 → zU → Option (Int32 × zU)) (x1 x2 x3 x4 x6 x8 : Int32) (u : zU) : Option (Int32 × zU) := K x1 x2 (x3 + x8) (x4 + 1) (zst u 1 (upd (sLog (if x2 = -1 then sBlow (u 1) else u 1) x6 x8) 9 (z_min 9999 ((if x2 = -1 then sBlow (u 1) else u 1) 9 + 1))))
theorem pEnd_e (K : Int32 → Int32 → Int32 → Int32 → zU → Option (Int32 × zU)) (x1 x2 x3 x4 x6 x8 : Int32) (u : zU) (hV : IV (u 1)) : (if x2 = (-1 : Int32) then ((f_X11_blows u).bind (fun u14 => (f_X11_logs x6 x8 u14).bind (fun u15 => z_let (f_X11_lesser (9999 : Int32) ((u15 1 9) + (1 : Int32)) u15) (fun r16 => z_let (z_up u15 1 9 r16) (fun u17 => z_let (x3 + x8) (fun z18 => K x1 x2 z18 (x4 + (1 : Int32)) u17)))))) else ((f_X11_logs x6 x8 u).bind (fun u10 => z_let (f_X11_lesser (9999 : Int32) ((u10 1 9) + (1 : Int32)) u10) (fun r11 => z_let (z_up u10 1 9 r11) (fun u12 => z_let (x3 + x8) (fun z13 => K x1 x2 z13 (x4 + (1 : Int32)) u12)))))) = pEnd K x1 x2 x3 x4 x6 x8 u := by
  have e9 : ∀ (v : Nat → Int32), sLog v x6 x8 9 = v 9 := fun v => rfl
  unfold pEnd
  by_cases h : x2 = -1
  · rw [if_pos h, if_pos h, pr_blows hV, Option.bind_some, pr_logs, Option.bind_some]
    simp only [z_let, f_X11_lesser_e, z_min_eq, z_up_st, zst_zst, zst_e, e9]
  · rw [if_neg h, if_neg h, pr_logs, Option.bind_some]
    simp only [z_let, f_X11_lesser_e, z_min_eq, z_up_st, zst_zst, zst_e, e9]
theorem fil_cnt {v : Nat → Int32} (h : IV v) {b : Nat} (hb : b < 8) (hn : sFW v ≠ -1) (ho : sOpen v b = true) : bcnt (Pin (fil1 v b) (nI b)) (rN v) = bcnt (Pin v (nI b)) (rN v) + 1 := by
  have h8 := h.n8
  have hw := h.w8
  obtain ⟨x, a, e1, e2, hx, ha8, ha, hp⟩ := sFW_at h hn
  have ef : fil1 v b = sG v x a (nI b) := by unfold fil1; rw [if_neg hn, if_pos ho, e1, e2, nI_clamp (by omega), nI_clamp (by omega)]
  rw [ef]
  refine bcnt_up _ _ (x := x) _ (fun r hr hne => ?_) hx (decide_eq_false (by rw [hp]; exact fun e => pu_m1 (by omega) e.symm)) (decide_eq_true sG_p)
  have := ha.1
  unfold Pin
  rw [sG_o (by omega) (by omega) (by omega)]
theorem pr_fil1 {K : Int32 → Int32 → Int32 → Int32 → zU → Option (Int32 × zU)} {x1 x2 x3 x4 x6 x8 : Int32} {u : zU} (hV : IV (u 1)) {b : Nat} (hb : b < 8) (n : Nat) : (f_X11_goes_116 K (n + 1) x1 x2 x3 x4 x6 (nI b) x8 (sFW (u 1)) u = pEnd K x1 x2 x3 x4 x6 x8 u ∧ fil1 (u 1) b = u 1) ∨ (sFW (u 1) ≠ -1 ∧ sOpen (u 1) b = true ∧ f_X11_goes_116 K (n + 1) x1 x2 x3 x4 x6 (nI b) x8 (sFW (u 1)) u = f_X11_goes_116 K n x1 x2 x3 x4 x6 (nI b) x8 (sFW (fil1 (u 1) b)) (zst u 1 (fil1 (u 1) b))) := by
  have h8 := hV.n8
  have hw := hV.w8
  rw [f_X11_goes_116_s]
  by_cases hn : sFW (u 1) = -1
  · left
    rw [if_pos hn]
    exact ⟨pEnd_e K x1 x2 x3 x4 x6 x8 u hV, by unfold fil1; rw [if_pos hn]⟩
  · rw [if_neg hn, pr_hasRoom hV hb, Option.bind_some]
    by_cases ho : sOpen (u 1) b = true
    · right
      refine ⟨hn, ho, ?_⟩
      obtain ⟨x, a, e1, e2, hx, ha8, ha, hp⟩ := sFW_at hV hn
      have ef : fil1 (u 1) b = sG (u 1) x a (nI b) := by unfold fil1; rw [if_neg hn, if_pos ho, e1, e2, nI_clamp (by omega), nI_clamp (by omega)]
      rw [if_pos ho, e1, pr_gets hV hx ha, Option.bind_some, pr_firstWaiting (by rw [zst_e]; exact (hV.g hx ha hb).1), Option.bind_some, zst_e, ef]
    · left
      rw [if_neg ho]
      exact ⟨pEnd_e K x1 x2 x3 x4 x6 x8 u hV, by unfold fil1; rw [if_neg hn, if_neg ho]⟩
theorem pr_fill {K : Int32 → Int32 → Int32 → Int32 → zU → Option (Int32 × zU)} {x1 x2 x3 x4 x6 x8 : Int32} {u : zU} (hV : IV (u 1)) {b : Nat} (hb : b < 8) : f_X11_goes_116 K 5000 x1 x2 x3 x4 x6 (nI b) x8 (sFW (u 1)) u = pEnd K x1 x2 x3 x4 x6 x8 (zst u 1 (sFill (u 1) b)) := by
  unfold sFill
  rcases pr_fil1 (K := K) (x1 := x1) (x2 := x2) (x3 := x3) (x4 := x4) (x6 := x6) (x8 := x8) hV hb 4999 with ⟨e1, f1⟩ | ⟨n1, o1, e1⟩
  · rw [e1, f1, f1, zst_same]
  · rw [e1]
    have I1 := fil1_I hV hb
    have hV1 : IV ((zst u 1 (fil1 (u 1) b)) 1) := by rw [zst_e]; exact I1.1
    have q := pr_fil1 (K := K) (x1 := x1) (x2 := x2) (x3 := x3) (x4 := x4) (x6 := x6) (x8 := x8) hV1 hb 4998
    rw [zst_e] at q
    rcases q with ⟨e2, f2⟩ | ⟨n2, o2, e2⟩
    · rw [e2, f2]
    · rw [e2, zst_zst]
      have I2 := fil1_I I1.1 hb
      have hV2 : IV ((zst u 1 (fil1 (fil1 (u 1) b) b)) 1) := by rw [zst_e]; exact I2.1
      have q := pr_fil1 (K := K) (x1 := x1) (x2 := x2) (x3 := x3) (x4 := x4) (x6 := x6) (x8 := x8) hV2 hb 4997
      rw [zst_e] at q
      rcases q with ⟨e3, f3⟩ | ⟨n3, o3, e3⟩
      · exact e3
      · exfalso
        have c1 := fil_cnt hV hb n1 o1
        have c2 := fil_cnt I1.1 hb n2 o2
        rw [I1.2.1] at c2
        unfold sOpen at o3
        rw [Bool.and_eq_true, I2.2.1, I1.2.1] at o3
        have := of_decide_eq_true o3.2
        omega
/-! a stop -/
/-- the top behind a step of e + 1 and what the law adds -/
def sV1 (v : Nat → Int32) (T : zT) (e : Nat) : Nat → Int32 := upd v 4 (nI ((tP v + (sFar v T).toNatClampNeg + e + 1) % 8))
def sGo (v : Nat → Int32) : Int32 := sFirst v (v 4)
def sV2 (v : Nat → Int32) : Nat → Int32 := if sGo v = -1 then v else upd v (13 + (v (28 + 4 * (sGo v).toNatClampNeg)).toNatClampNeg) (v (13 + (v (28 + 4 * (sGo v).toNatClampNeg)).toNatClampNeg) + 1)
def sBt (v : Nat → Int32) : Nat := (tP v + 4) % 8
def sCC (v : Nat → Int32) (T : zT) (b : Nat) : Int32 × (Nat → Int32) := sCo v T b (rN v)
/-- the row behind a stop (but for its log and the stop's number), what was paid -/
def sH4 (v : Nat → Int32) (T : zT) (e : Nat) : Nat → Int32 := sFill (sCC (sV2 (sV1 v T e)) T (sBt (sV1 v T e))).2 (sBt (sV1 v T e))
def sH5 (v : Nat → Int32) (T : zT) (e : Nat) (wd : Bool) : Nat → Int32 := if wd = true then sBlow (sH4 v T e) else sH4 v T e
def sHp (v : Nat → Int32) (T : zT) (e : Nat) : Int32 := (sCC (sV2 (sV1 v T e)) T (sBt (sV1 v T e))).1
def sHg (v : Nat → Int32) (T : zT) (e : Nat) : Int32 := sGo (sV1 v T e)
def sH (v : Nat → Int32) (T : zT) (e : Nat) (wd : Bool) : Nat → Int32 := upd (sH5 v T e wd) 9 (z_min 9999 (sH5 v T e wd 9 + 1))
def TB (T : zT) : Prop := ∀ o, sm (T 0 o) 360
theorem sFar_b {T : zT} (hB : TB T) (v : Nat → Int32) : ∃ f, f ≤ 360 ∧ sFar v T = nI f := hB _
theorem IV.v1 {v : Nat → Int32} (h : IV v) (T : zT) (e : Nat) : IV (sV1 v T e) ∧ rN (sV1 v T e) = rN v ∧ sV1 v T e 4 = nI (tP (sV1 v T e)) := by
  have := h.ut (t := (tP v + (sFar v T).toNatClampNeg + e + 1) % 8) (Nat.mod_lt _ (by decide))
  exact ⟨this.1, this.2.1, this.1.t⟩
theorem IV.v2 {v : Nat → Int32} (h : IV v) : IV (sV2 v) ∧ rN (sV2 v) = rN v ∧ tP (sV2 v) = tP v := by
  have h8 := h.n8
  unfold sV2
  rcases sFirst_spec v (v 4) with ⟨h1, -⟩ | ⟨x, hx, h1, hp, -⟩
  · rw [show sGo v = -1 from h1, if_pos rfl]; exact ⟨h, rfl, rfl⟩
  · rw [show sGo v = nI x from h1, if_neg (pu_m1 (by omega)), nI_clamp (by omega)]
    obtain ⟨p, p1, p2⟩ := h.pa (show x < 8 by omega)
    rw [p2, nI_clamp (by omega)]
    have := h.u (k := 13 + p) (y := v (13 + p) + 1) (by omega) (fun r hr => by omega) (okb_t (by omega))
    exact ⟨this.1, this.2.1, this.2.2.2⟩
theorem sV2_o {v : Nat → Int32} (h : IV v) {j : Nat} (hj : j < 13 ∨ 17 ≤ j) : sV2 v j = v j := by
  have h8 := h.n8
  unfold sV2
  rcases sFirst_spec v (v 4) with ⟨h1, -⟩ | ⟨x, hx, h1, hp, -⟩
  · rw [show sGo v = -1 from h1, if_pos rfl]
  · rw [show sGo v = nI x from h1, if_neg (pu_m1 (by omega)), nI_clamp (by omega)]
    obtain ⟨p, p1, p2⟩ := h.pa (show x < 8 by omega)
    rw [p2, nI_clamp (by omega), upd_ne (by omega)]
theorem sBt_lt (v : Nat → Int32) : sBt v < 8 := Nat.mod_lt _ (by decide)
theorem bt0 : ∀ t, t < 8 → (nI t + 4) &&& 7 = nI ((t + 4) % 8) ∧ z_rem (nI t + 4) 8 = nI ((t + 4) % 8) := by decide +kernel
theorem sCC_I {v : Nat → Int32} (h : IV v) (T : zT) {b : Nat} (hb : b < 8) : ∀ k, k ≤ rN v → CoI v k (sCo v T b k).2
  | 0, _ => CoI.i h
  | k + 1, hk => by
    have ih := sCC_I h T hb k (by omega)
    have h8 := h.n8
    rw [sCo_s]
    unfold sCo1
    by_cases hp : Pin (sCo v T b k).2 (nI b) k = true
    · rw [if_pos hp]
      exact ih.s T (by omega) hb ((ih.2.2.1 k (Nat.le_refl k) (by omega)).symm.trans (of_decide_eq_true hp))
    · rw [if_neg hp]; exact ih.m
/-- a row behind a stop: the invariant, and what a stop leaves -/
def HaI (v a : Nat → Int32) : Prop := IV a ∧ rN a = rN v ∧ ∀ j, j < 3 ∨ j = 5 ∨ j = 7 ∨ j = 8 ∨ j = 11 ∨ 65 ≤ j → a j = v j
theorem sBlow_I {v : Nat → Int32} (h : IV v) : HaI v (sBlow v) ∧ sBlow v 9 = v 9 ∧ sBlow v 6 = v 6 ∧ sBlow v 4 = v 4 := by
  have h8 := h.n8
  have hV1 := h.d.1
  obtain ⟨b1, b2⟩ := hV1.b3
  have hn : rN (sB3 (sD v)) = rN v := b2.trans h.d.2.1
  unfold sBlow
  have hd : ∀ j, j ≠ 12 → sD v j = v j := fun j hj => upd_ne hj
  by_cases hc : z_rem (rnd v) 100 < v 8
  · rw [if_pos hc]
    have hq : QA (sB3 (sD v)) (rN (sB3 (sD v))) (sQA (fun r => decide (sB3 (sD v) (17 + sHit (sD v)) = 0) && Pin (sB3 (sD v)) (nI (sHit (sD v))) r) (rN (sB3 (sD v))) (sB3 (sD v))) := by
      refine zfo_inv (QA (sB3 (sD v))) (QA.i b1) _ (fun k a hk hq => ?_)
      show QA _ (k + 1) (if _ then _ else _)
      split
      · rename_i hP
        rw [Bool.and_eq_true] at hP
        exact hq.s hk (by rw [show sB3 (sD v) (25 + 4 * k) = nI (sHit (sD v)) from of_decide_eq_true hP.2]; exact pu_m1 (by have := (sHit_c (sD v)).2.2; omega))
      · exact hq.m
    rw [hn] at hq
    have h3 : ∀ j, j ≠ 12 → ¬ (17 ≤ j ∧ j < 25) → sB3 (sD v) j = v j := fun j h1 h2 => by
      have := (sHit_c (sD v)).2.2
      unfold sB3
      rw [upd_ne (by omega)]
      exact (upd_ne h1).trans (hd j h1)
    refine ⟨⟨hq.1, hq.2.1.trans hn, fun j hj => ?_⟩, ?_, ?_, ?_⟩
    · rw [hq.2.2 j (by omega) (by omega) (fun r hr => by omega)]; exact h3 j (by omega) (by omega)
    · rw [hq.2.2 9 (by omega) (by omega) (fun r hr => by omega)]; exact h3 9 (by omega) (by omega)
    · rw [hq.2.2 6 (by omega) (by omega) (fun r hr => by omega)]; exact h3 6 (by omega) (by omega)
    · rw [hq.2.2 4 (by omega) (by omega) (fun r hr => by omega)]; exact h3 4 (by omega) (by omega)
  · rw [if_neg hc]
    exact ⟨⟨hV1, h.d.2.1, fun j hj => hd j (by omega)⟩, hd 9 (by omega), hd 6 (by omega), hd 4 (by omega)⟩
theorem sFill_I {v : Nat → Int32} (h : IV v) {b : Nat} (hb : b < 8) : FiI v (sFill v b) := (fil1_I h hb).tr (fil1_I (fil1_I h hb).1 hb)
theorem sH4_I {v : Nat → Int32} (h : IV v) (T : zT) (e : Nat) : HaI v (sH4 v T e) ∧ sH4 v T e 9 = v 9 ∧ sH4 v T e 4 = sV1 v T e 4 := by
  obtain ⟨a1, a2, -⟩ := h.v1 T e
  obtain ⟨b1, b2, -⟩ := a1.v2
  have c := sCC_I b1 T (sBt_lt (sV1 v T e)) (rN (sV2 (sV1 v T e))) (Nat.le_refl _)
  have f := sFill_I c.1 (sBt_lt (sV1 v T e))
  have h1 : ∀ j, j ≠ 4 → sV1 v T e j = v j := fun j hj => upd_ne hj
  have key : ∀ j, j ≠ 6 → j ≠ 10 → ¬ (25 ≤ j ∧ j < 65) → (j < 13 ∨ 17 ≤ j) → sH4 v T e j = sV1 v T e j := fun j j1 j2 j3 j4 => by
    have e1 := f.2.2 j j2 j3
    have e2 := c.2.2.2 j j1 j2 j3
    have e3 := sV2_o a1 j4
    exact e1.trans (e2.trans e3)
  refine ⟨⟨f.1, f.2.1.trans (c.2.1.trans (b2.trans a2)), fun j hj => ?_⟩, ?_, key 4 (by omega) (by omega) (by omega) (by omega)⟩
  · rw [key j (by omega) (by omega) (by omega) (by omega)]; exact h1 j (by omega)
  · rw [key 9 (by omega) (by omega) (by omega) (by omega)]; exact h1 9 (by omega)
theorem sH5_I {v : Nat → Int32} (h : IV v) (T : zT) (e : Nat) (wd : Bool) : HaI v (sH5 v T e wd) ∧ sH5 v T e wd 9 = v 9 ∧ sH5 v T e wd 4 = sV1 v T e 4 := by
  obtain ⟨⟨a1, a2, a3⟩, a4, a5⟩ := sH4_I h T e
  unfold sH5
  split
  · obtain ⟨⟨b1, b2, b3⟩, b4, -, b6⟩ := sBlow_I a1
    exact ⟨⟨b1, b2.trans a2, fun j hj => (b3 j hj).trans (a3 j hj)⟩, b4.trans a4, b6.trans a5⟩
  · exact ⟨⟨a1, a2, a3⟩, a4, a5⟩
theorem IV.u9 {v : Nat → Int32} (h : IV v) : IV (upd v 9 (z_min 9999 (v 9 + 1))) ∧ rN (upd v 9 (z_min 9999 (v 9 + 1))) = rN v := by
  have h9 := sm_9999.mp h.v9
  have := h.u (k := 9) (y := z_min 9999 (v 9 + 1)) (by omega) (fun r hr => by omega) (okb_9 (sm_9999.mpr (by unfold z_min; split <;> lia)))
  exact ⟨this.1, this.2.1⟩
theorem sH_I {v : Nat → Int32} (h : IV v) (T : zT) (e : Nat) (wd : Bool) : HaI v (sH v T e wd) := by
  obtain ⟨⟨a1, a2, a3⟩, -, -⟩ := sH5_I h T e wd
  obtain ⟨b1, b2⟩ := a1.u9
  exact ⟨b1, b2.trans a2, fun j hj => (upd_ne (by omega)).trans (a3 j hj)⟩
theorem HaI.law {v a : Nat → Int32} (h : HaI v a) {T : zT} (hT : RLw v T) : RLw a T := hT.ex (h.2.2 1 (by omega)) (h.2.2 2 (by omega)) (fun j h1 h2 => h.2.2 j (by omega))
