/-! PURE, 12: the reference's stops, one and many -/
def rMid (K : Int32 → Int32 → Int32 → Int32 → zU → Option (Int32 × zU)) (x1 x2 x3 x4 z3 : Int32) (u2 : zU) : Option (Int32 × zU) := z_let z3 (fun z3 => z_let (z_up u2 1 4 (z_rem ((u2 1 4) + z3) (8 : Int32))) (fun u4 => (f_X11_governorNow u4).bind (fun r5 => if r5 = (-1 : Int32) then (z_let (z_rem ((u4 1 4) + (4 : Int32)) (8 : Int32)) (fun z6 => rTl K x1 x2 x3 x4 r5 z6 u4)) else ((f_X11_of r5 (3 : Int32) u4).bind (fun r31 => z_let ((13 : Int32) + r31) (fun z32 => if z_in z32 705 = true then (z_let (u4 1 (z32).toNatClampNeg) (fun z33 => if z_in z32 705 = true then (z_let (z_up u4 1 (z32).toNatClampNeg (z33 + (1 : Int32))) (fun u34 => z_let (z_rem ((u34 1 4) + (4 : Int32)) (8 : Int32)) (fun z35 => rTl K x1 x2 x3 x4 r5 z35 u34))) else none)) else none))))))
theorem pr_mid {K : Int32 → Int32 → Int32 → Int32 → zU → Option (Int32 × zU)} {x1 x2 x3 x4 : Int32} {u : zU} {T : zT} (hV : IV (u 1)) (hT : RLw (u 1) T) {f e : Nat} (hf : sFar (u 1) T = nI f) (hf2 : f ≤ 360) (he : e < 32768) :
    ∃ u', rMid K x1 x2 x3 x4 (nI (f + e + 1)) u = pEnd K x1 x2 x3 x4 (sHg (u 1) T e) (sHp (u 1) T e) u' ∧ u' 1 = sH4 (u 1) T e ∧ RF u u' := by
  have h8 := hV.n8
  have ht8 := hV.t8
  obtain ⟨a1, a2, a3⟩ := hV.v1 T e
  have htop : z_rem (u 1 4 + nI (f + e + 1)) 8 = nI ((tP (u 1) + (sFar (u 1) T).toNatClampNeg + e + 1) % 8) := by
    rw [hf, hV.t, nI_clamp (by omega), nI_add]
    refine (pk_rem (a := tP (u 1) + (f + e + 1)) (d := 8) (by omega) (by decide) (by decide)).trans ?_
    rw [show tP (u 1) + (f + e + 1) = tP (u 1) + f + e + 1 by omega]
  have hbt : z_rem (sV1 (u 1) T e 4 + 4) 8 = nI (sBt (sV1 (u 1) T e)) := by rw [a3]; exact (bt0 _ a1.t8).2
  unfold rMid
  simp only [z_let]
  rw [htop]
  rw [show z_up u 1 4 (nI ((tP (u 1) + (sFar (u 1) T).toNatClampNeg + e + 1) % 8)) = zst u 1 (sV1 (u 1) T e) from rfl]
  rw [pr_governor (by rw [zst_e]; exact a1), Option.bind_some, zst_e]
  have hT1 : RLw (sV1 (u 1) T e) T := hT.ex (upd_ne (by decide)) (upd_ne (by decide)) (fun k k1 k2 => upd_ne (by omega))
  rw [show sFirst (sV1 (u 1) T e) (sV1 (u 1) T e 4) = sHg (u 1) T e from rfl]
  rcases sFirst_spec (sV1 (u 1) T e) (sV1 (u 1) T e 4) with ⟨g1, -⟩ | ⟨x, hx, g1, hp, -⟩
  · have g2 : sHg (u 1) T e = -1 := g1
    have ev2 : sV2 (sV1 (u 1) T e) = sV1 (u 1) T e := by unfold sV2; rw [show sGo (sV1 (u 1) T e) = -1 from g1, if_pos rfl]
    rw [if_pos g2, hbt]
    obtain ⟨u', e1, k1, F1⟩ := pr_tl (K := K) (x1 := x1) (x2 := x2) (x3 := x3) (x4 := x4) (g := sHg (u 1) T e) (u := zst u 1 (sV1 (u 1) T e)) (T := T) (by rw [zst_e]; exact a1) (by rw [zst_e]; exact hT1) (sBt_lt (sV1 (u 1) T e))
    rw [zst_e] at e1 k1
    refine ⟨u', ?_, ?_, F1⟩
    · rw [e1]; unfold sHp; rw [ev2]
    · rw [k1]; unfold sH4; rw [ev2]
  · have g2 : sHg (u 1) T e = nI x := g1
    have hx8 : x < 8 := by omega
    obtain ⟨p, p1, p2⟩ := a1.pa hx8
    have ev2 : sV2 (sV1 (u 1) T e) = upd (sV1 (u 1) T e) (13 + p) (sV1 (u 1) T e (13 + p) + 1) := by
      unfold sV2
      rw [show sGo (sV1 (u 1) T e) = nI x from g1, if_neg (pu_m1 (by omega)), nI_clamp (by omega), p2, nI_clamp (by omega)]
    rw [if_neg (by rw [g2]; exact pu_m1 (by omega)), g2, pr_of3 hx8, Option.bind_some, zst_e, p2, pu_l13, if_pos (pu_in (by omega) (by decide)), if_pos (pu_in (by omega) (by decide)), nI_clamp (by omega)]
    rw [show z_up (zst u 1 (sV1 (u 1) T e)) 1 (13 + p) (sV1 (u 1) T e (13 + p) + 1) = zst u 1 (sV2 (sV1 (u 1) T e)) by rw [ev2, z_up_st, zst_zst, zst_e], zst_e]
    obtain ⟨b1, b2, b3⟩ := a1.v2
    rw [sV2_o a1 (by omega), hbt]
    have hT2 : RLw (sV2 (sV1 (u 1) T e)) T := hT1.ex (sV2_o a1 (by omega)) (sV2_o a1 (by omega)) (fun k k1 k2 => sV2_o a1 (by omega))
    obtain ⟨u', e1, k1, F1⟩ := pr_tl (K := K) (x1 := x1) (x2 := x2) (x3 := x3) (x4 := x4) (g := nI x) (u := zst u 1 (sV2 (sV1 (u 1) T e))) (T := T) (by rw [zst_e]; exact b1) (by rw [zst_e]; exact hT2) (sBt_lt (sV1 (u 1) T e))
    rw [zst_e] at e1 k1
    exact ⟨u', e1, k1, F1⟩
theorem z_b2s {α β γ : Type} (a : α) (b : β) (f : α → β → Option γ) : z_b2 (some (a, b)) f = f a b := rfl
theorem goes5_T (n : Nat) (x1 x2 x3 x4 : Int32) (u : zU) (h : ¬ x1 ≤ x4) (h2 : ¬ x2 = -1) : f_X11_goes_5 (n + 1) x1 x2 x3 x4 u = z_b2 (f_X11_fartherNow u) (fun r1 u2 => rMid (fun k1 k2 k3 k4 u => f_X11_goes_5 n k1 k2 k3 k4 u) x1 x2 x3 x4 ((r1 + x2) + 1) u2) := by
  rw [f_X11_goes_5_s, if_neg h]
  congr 1
  funext r1 u2
  rw [if_neg h2]
  rfl
theorem goes5_D (n : Nat) (x1 x2 x3 x4 : Int32) (u : zU) (h : ¬ x1 ≤ x4) (h2 : x2 = -1) : f_X11_goes_5 (n + 1) x1 x2 x3 x4 u = z_b2 (f_X11_fartherNow u) (fun r1 u2 => z_b2 (f_X11_draw (u2 1 7) u2) (fun r39 u40 => rMid (fun k1 k2 k3 k4 u => f_X11_goes_5 n k1 k2 k3 k4 u) x1 x2 x3 x4 ((r1 + r39) + 1) u40)) := by
  rw [f_X11_goes_5_s, if_neg h]
  congr 1
  funext r1 u2
  rw [if_pos h2]
  rfl
theorem rIt_f (v : Nat → Int32) (T : zT) (e : Nat) : rIt v T e false = upd (sLog (sH4 v T e) (sHg v T e) (sHp v T e)) 9 (z_min 9999 (sH4 v T e 9 + 1)) := by
  have h : sH5 v T e false = sH4 v T e := if_neg (by decide)
  unfold rIt
  rw [h]
theorem rIt_t (v : Nat → Int32) (T : zT) (e : Nat) : rIt v T e true = upd (sLog (sBlow (sH4 v T e)) (sHg v T e) (sHp v T e)) 9 (z_min 9999 (sBlow (sH4 v T e) 9 + 1)) := by
  have h : sH5 v T e true = sBlow (sH4 v T e) := if_pos rfl
  unfold rIt
  rw [h]
/-- a stop by a told draw -/
theorem pr_goT {u : zU} {T : zT} (hV : IV (u 1)) (hT : RLw (u 1) T) (hB : TB T) {e : Nat} (he : e < 8) (n : Nat) {N k : Nat} (hk : k < N) (hN : N ≤ 100) (x3 : Int32) :
    ∃ u', f_X11_goes_5 (n + 1) (nI N) (nI e) x3 (nI k) u = f_X11_goes_5 n (nI N) (nI e) (x3 + sHp (u 1) T e) (nI (k + 1)) u' ∧ u' 1 = rIt (u 1) T e false ∧ RF u u' := by
  obtain ⟨u1, e1, k1, F1⟩ := pr_fartherNow hV hT
  obtain ⟨f, f1, f2⟩ := sFar_b hB (u 1)
  obtain ⟨u2, e2, k2, F2⟩ := pr_mid (K := fun k1 k2 k3 k4 u => f_X11_goes_5 n k1 k2 k3 k4 u) (x1 := nI N) (x2 := nI e) (x3 := x3) (x4 := nI k) (u := u1) (T := T) (e := e) (by rw [k1]; exact hV) (by rw [k1]; exact hT) (by rw [k1]; exact f2) f1 (by omega)
  rw [k1] at e2 k2
  have hm : nI e ≠ -1 := pu_m1 (by omega)
  refine ⟨zst u2 1 (rIt (u 1) T e false), ?_, zst_e, (F1.tr F2).st _⟩
  rw [goes5_T _ _ _ _ _ _ (nI_ge hk (by omega)) hm, e1, z_b2s, f2, nI_add, nI_1, e2]
  unfold pEnd
  rw [if_neg hm, k2, nI_1, rIt_f]
/-- a stop by a draw: the draw behind the row v -/
def sDr (v : Nat → Int32) : Nat := (rnd v).toNatClampNeg % (v 7).toNatClampNeg
theorem sDr_c {v : Nat → Int32} (h : IV v) : z_rem (rnd v) (v 7) = nI (sDr v) ∧ sDr v < 8 := by
  obtain ⟨d, hd, e⟩ := rnd_lt v
  obtain ⟨r, r1, r2, r3⟩ := h.v7
  unfold sDr
  rw [e, r3, nI_clamp (by omega), nI_clamp (by omega)]
  exact ⟨pk_rem (by omega) (by omega) (by omega), Nat.lt_of_lt_of_le (Nat.mod_lt _ (by omega)) r2⟩
theorem pr_goD {u : zU} {T : zT} (hV : IV (u 1)) (hT : RLw (u 1) T) (hB : TB T) (n : Nat) {N k : Nat} (hk : k < N) (hN : N ≤ 100) (x3 : Int32) :
    ∃ u', f_X11_goes_5 (n + 1) (nI N) (-1) x3 (nI k) u = f_X11_goes_5 n (nI N) (-1) (x3 + sHp (sD (u 1)) T (sDr (u 1))) (nI (k + 1)) u' ∧ u' 1 = rIt (sD (u 1)) T (sDr (u 1)) true ∧ RF u u' := by
  obtain ⟨u1, e1, k1, F1⟩ := pr_fartherNow hV hT
  obtain ⟨f, f1, f2⟩ := sFar_b hB (u 1)
  obtain ⟨d1, d2⟩ := sDr_c hV
  obtain ⟨rc, rc1, rc2, rc3⟩ := hV.v7
  have hd : ∀ j, j ≠ 12 → sD (u 1) j = u 1 j := fun j hj => upd_ne hj
  have hTd : RLw (sD (u 1)) T := hT.ex (hd 1 (by decide)) (hd 2 (by decide)) (fun j h1 h2 => hd j (by omega))
  obtain ⟨u2, e2, k2, F2⟩ := pr_mid (K := fun k1 k2 k3 k4 u => f_X11_goes_5 n k1 k2 k3 k4 u) (x1 := nI N) (x2 := -1) (x3 := x3) (x4 := nI k) (u := zst u1 1 (sD (u 1))) (T := T) (e := sDr (u 1)) (f := f) (by rw [zst_e]; exact hV.d.1) (by rw [zst_e]; exact hTd) (by rw [zst_e, sFar_d]; exact f2) f1 (by omega)
  rw [zst_e] at e2 k2
  have hn : u1 1 7 ≠ 0 := by rw [k1, rc3]; exact nI_ne0 (by omega) (by omega)
  refine ⟨zst u2 1 (rIt (sD (u 1)) T (sDr (u 1)) true), ?_, zst_e, ((F1.st _).tr F2).st _⟩
  rw [goes5_D _ _ _ _ _ _ (nI_ge hk (by omega)) rfl, e1, z_b2s, pr_draw hn, z_b2s, k1, d1, f2, nI_add, nI_1, e2]
  unfold pEnd
  rw [if_pos rfl, k2, nI_1, rIt_t]
theorem pr_goE {u : zU} (n : Nat) {N : Nat} (hN : N ≤ 100) (x2 x3 : Int32) : f_X11_goes_5 (n + 1) (nI N) x2 x3 (nI N) u = some (x3, u) := by
  rw [f_X11_goes_5_s, if_pos (nI_le (Nat.le_refl _) (by omega))]
/-! many stops, in step with the class's wheel -/
/-- the wheel at w is in step with the reference -/
def STP (u : zU) (w : Nat) (L : Nat → Nat) (T : zT) (v : Nat → Int32) : Prop := RW u w v ∧ IV v ∧ CL u L T ∧ RLw v T
theorem STP.halt {u : zU} {w : Nat} {L : Nat → Nat} {T : zT} {v : Nat → Int32} (h : STP u w L T v) (hL : Lap w L) (hB : TB T) {dr : Int32} {e : Nat} (he : z_rem dr (v 7) = nI e) (he8 : e < 32768) (wd : Bool) : ∃ u', f_X9_halt w L dr wd u = some u' ∧ STP u' w L T (rIt v T e wd) ∧ Fr w L u u' ∧ u' w 17 = sHg v T e ∧ u' w 18 = sHp v T e := by
  obtain ⟨hR, hV, hC, hT⟩ := h
  obtain ⟨u', e1, R, C, F, k1, k2⟩ := pc_halt hR hV hC hL hB he he8 wd
  exact ⟨u', e1, ⟨R.ex (fun k h3 h65 h11 => rIt_o v T e wd h65 h11), (rIt_I hV T e wd).1, C, rIt_law hV hT e wd⟩, F, k1, k2⟩
theorem STP.draw {u : zU} {w : Nat} {L : Nat → Nat} {T : zT} {v : Nat → Int32} (h : STP u w L T v) (hL : Lap w L) : ∃ u', f_X9_draw w L u = (rnd v, u') ∧ STP u' w L T (sD v) ∧ Fr w L u u' ∧ (∀ j, 17 ≤ j → u' w j = u w j) := by
  obtain ⟨hR, hV, hC, hT⟩ := h
  obtain ⟨u', e1, R, F, j, -⟩ := pc_draw hR L
  have hd : ∀ j, j ≠ 12 → sD v j = v j := fun j hj => upd_ne hj
  exact ⟨u', e1, ⟨R, hV.d.1, hC.fw F hL, hT.ex (hd 1 (by decide)) (hd 2 (by decide)) (fun j h1 h2 => hd j (by omega))⟩, F.f, j⟩
