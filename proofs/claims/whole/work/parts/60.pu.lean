/-! PURE, 11: a stop, on both sides: halt and goes -/
theorem kap_i0 : ∀ k, k < 65 → ∀ q, q ∈ kap k → q.1 = 0 → q.2 ≤ 16 := by decide +kernel
theorem RW.uo {u : zU} {w : Nat} {v : Nat → Int32} (h : RW u w v) {j : Nat} (hj : 17 ≤ j) (x : Int32) : RW (z_up u w j x) w v := by
  intro k o i hk
  by_cases e : o = 0
  · subst e
    have h1 := kap_i0 k (kap_lt hk) _ hk rfl
    rw [show z_up u w j x (w + 0) = upd (u w) j x from z_up_eq, upd_ne (by dsimp only at h1; omega)]
    exact h k 0 i hk
  · rw [z_up_ne (by omega)]; exact h k o i hk
def sE (v : Nat → Int32) (wd : Bool) : Nat → Int32 := if wd = true then sBlow v else v
theorem sE_t (v : Nat → Int32) : sE v true = sBlow v := if_pos rfl
theorem sE_f (v : Nat → Int32) : sE v false = v := if_neg (by decide)
def cTl (w : Nat) (L : Nat → Nat) (z : Int32) (wd : Bool) (u : zU) : Option zU := z_b2 (f_X9_collect w L z u) (fun r7 u8 => z_let (z_up u8 w 18 r7) (fun u9 => (f_X9_fill w L z u9).bind (fun u10 => if wd = true then ((f_X9_blow w L u10).bind (fun u13 => z_let (z_min (9999 : Int32) ((u13 w 15) + (1 : Int32))) (fun z14 => z_let (z_up u13 w 15 z14) (fun u15 => some u15)))) else (z_let (z_min (9999 : Int32) ((u10 w 15) + (1 : Int32))) (fun z11 => z_let (z_up u10 w 15 z11) (fun u12 => some u12))))))
theorem pc_tl {u : zU} {w : Nat} {v : Nat → Int32} {L : Nat → Nat} {T : zT} (hR : RW u w v) (hV : IV v) (hC : CL u L T) (hL : Lap w L) {b : Nat} (hb : b < 8) (wd : Bool) :
    ∃ u', cTl w L (nI b) wd u = some u' ∧ RW u' w (upd (sE (sFill (sCC v T b).2 b) wd) 9 (z_min 9999 (sE (sFill (sCC v T b).2 b) wd 9 + 1))) ∧ CL u' L T ∧ Fr w L u u' ∧ u' w 17 = u w 17 ∧ u' w 18 = (sCC v T b).1 := by
  obtain ⟨u1, e1, R1, C1, F1, j1, I1⟩ := pc_collect hR hV hC hL hb
  have R2 := R1.uo (j := 18) (by omega) (sCo v T b (rN v)).1
  have hFw : Fw w u1 (z_up u1 w 18 (sCo v T b (rN v)).1) := Fw.rf.up (by omega)
  obtain ⟨u3, e3, R3, F3, j3⟩ := pc_fill L R2 I1.1 hb
  have hV3 := (sFill_I I1.1 hb).1
  unfold cTl
  rw [e1]
  simp only [z_b2, Option.bind_some, z_let]
  rw [e3]
  simp only [Option.bind_some]
  have h17 : u3 w 17 = u w 17 := by rw [j3 17 (by omega), z_up_eq, upd_ne (by omega), j1 17 (by omega)]
  have h18 : u3 w 18 = (sCC v T b).1 := by rw [j3 18 (by omega), z_up_eq, upd_eq]; rfl
  cases wd with
  | true =>
    rw [if_pos rfl]
    obtain ⟨u4, e4, R4, F4, j4⟩ := pc_blow R3 hV3 L
    rw [e4]
    simp only [Option.bind_some]
    rw [R4.s15]
    refine ⟨_, rfl, ?_, ((((C1.fw hFw hL).fw F3 hL).fw F4 hL).fw (Fw.rf.up (by omega)) hL), ((F1.tr ((hFw.tr F3).tr F4).f).up (by omega)), ?_, ?_⟩
    · rw [sE_t]; exact R4.u15 _
    · rw [z_up_eq, upd_ne (by omega), j4 17 (by omega), h17]
    · rw [z_up_eq, upd_ne (by omega), j4 18 (by omega), h18]
  | false =>
    rw [if_neg (by decide), R3.s15]
    refine ⟨_, rfl, ?_, (((C1.fw hFw hL).fw F3 hL).fw (Fw.rf.up (by omega)) hL), ((F1.tr (hFw.tr F3).f).up (by omega)), ?_, ?_⟩
    · rw [sE_f]; exact R3.u15 _
    · rw [z_up_eq, upd_ne (by omega), h17]
    · rw [z_up_eq, upd_ne (by omega), h18]
theorem pu_and3 : ∀ c, c < 4 → nI c &&& 3 = nI c := by decide +kernel
theorem pc_halt {u : zU} {w : Nat} {v : Nat → Int32} {L : Nat → Nat} {T : zT} (hR : RW u w v) (hV : IV v) (hC : CL u L T) (hL : Lap w L) (hB : TB T) {dr : Int32} {e : Nat} (he : z_rem dr (v 7) = nI e) (he8 : e < 32768) (wd : Bool) :
    ∃ u', f_X9_halt w L dr wd u = some u' ∧ RW u' w (sH v T e wd) ∧ CL u' L T ∧ Fr w L u u' ∧ u' w 17 = sHg v T e ∧ u' w 18 = sHp v T e := by
  have h8 := hV.n8
  have ht8 := hV.t8
  obtain ⟨rc, rc1, rc2, rc3⟩ := hV.v7
  obtain ⟨u1, e1, R1, C1, F1, j1⟩ := pc_goesFarther hR hV hC hL
  obtain ⟨f, f1, f2⟩ := sFar_b hB v
  have htop : ((v 4 + sFar v T) + (z_rem dr (v 7) + 1)) &&& 7 = nI ((tP v + (sFar v T).toNatClampNeg + e + 1) % 8) := by
    rw [he, f2, hV.t, nI_clamp (by omega), nI_1, nI_add, nI_add, pk_andN (by omega) 3 (by decide)]
    rfl
  obtain ⟨a1, a2, a3⟩ := hV.v1 T e
  have hn0 : ¬ v 7 ≤ 0 := by rw [rc3]; exact nI_nle (by omega) (by omega)
  have hn1 : ¬ v 7 = 0 := by rw [rc3]; exact nI_ne0 (by omega) (by omega)
  rw [f_X9_halt_e, hR.s12, if_neg hn0, if_pos hn1, e1]
  simp only [z_let, z_b2, Option.bind_some]
  rw [hR.s14, htop]
  have R2 : RW (z_up u1 w 14 (nI ((tP v + (sFar v T).toNatClampNeg + e + 1) % 8))) w (sV1 v T e) := R1.u14 _
  have F2 : Fr w L u (z_up u1 w 14 (nI ((tP v + (sFar v T).toNatClampNeg + e + 1) % 8))) := F1.up (by omega)
  have C2 : CL (z_up u1 w 14 (nI ((tP v + (sFar v T).toNatClampNeg + e + 1) % 8))) L T := C1.fw (Fw.rf.up (by omega)) hL
  generalize z_up u1 w 14 (nI ((tP v + (sFar v T).toNatClampNeg + e + 1) % 8)) = u2 at R2 F2 C2 ⊢
  rw [R2.s14, pc_firstIn R2 a1, Option.bind_some]
  rw [show sFirst (sV1 v T e) (sV1 v T e 4) = sHg v T e from rfl]
  have R3 := R2.uo (j := 17) (by omega) (sHg v T e)
  have F3 : Fr w L u (z_up u2 w 17 (sHg v T e)) := F2.up (by omega)
  have C3 : CL (z_up u2 w 17 (sHg v T e)) L T := C2.fw (Fw.rf.up (by omega)) hL
  have h17 : (z_up u2 w 17 (sHg v T e)) w 17 = sHg v T e := by rw [z_up_eq, upd_eq]
  generalize z_up u2 w 17 (sHg v T e) = u3 at R3 F3 C3 h17 ⊢
  have hbt : ((sV1 v T e 4) + 4) &&& 7 = nI (sBt (sV1 v T e)) := by rw [a3]; exact (bt0 _ a1.t8).1
  rw [h17]
  rcases sFirst_spec (sV1 v T e) (sV1 v T e 4) with ⟨g1, -⟩ | ⟨x, hx, g1, hp, -⟩
  · have g2 : sHg v T e = -1 := g1
    have ev2 : sV2 (sV1 v T e) = sV1 v T e := by unfold sV2; rw [show sGo (sV1 v T e) = -1 from g1, if_pos rfl]
    rw [if_pos g2, R3.s14, hbt]
    obtain ⟨u', e', R', C', F', k1, k2⟩ := pc_tl R3 a1 C3 hL (sBt_lt (sV1 v T e)) wd
    refine ⟨u', e', ?_, C', F3.tr F', k1.trans h17, ?_⟩
    · unfold sH sH5 sH4; rw [ev2]; exact R'
    · unfold sHp; rw [ev2]; exact k2
  · have g2 : sHg v T e = nI x := g1
    have hx8 : x < 8 := by omega
    obtain ⟨p, p1, p2⟩ := a1.pa hx8
    have ev2 : sV2 (sV1 v T e) = upd (sV1 v T e) (13 + p) (sV1 v T e (13 + p) + 1) := by
      unfold sV2
      rw [show sGo (sV1 v T e) = nI x from g1, if_neg (pu_m1 (by omega)), nI_clamp (by omega), p2, nI_clamp (by omega)]
    rw [if_neg (by rw [g2]; exact pu_m1 (by omega)), g2, if_pos (pu_in hx8 (by decide)), nI_clamp (by omega), R3.si hx8, p2, pu_and3 p (by omega), if_pos (pu_in (show p < 4 by omega) (by decide)), if_pos (pu_in (show p < 4 by omega) (by decide)), nI_clamp (by omega), R3.te (by omega)]
    have R4 : RW (z_up u3 (w + 7) p (sV1 v T e (13 + p) + 1)) w (sV2 (sV1 v T e)) := by rw [ev2]; exact R3.up (kap_7 p (by omega)) _
    have F4 : Fr w L u (z_up u3 (w + 7) p (sV1 v T e (13 + p) + 1)) := F3.up (by omega)
    have C4 : CL (z_up u3 (w + 7) p (sV1 v T e (13 + p) + 1)) L T := C3.fw (Fw.rf.up (by omega)) hL
    have h174 : (z_up u3 (w + 7) p (sV1 v T e (13 + p) + 1)) w 17 = nI x := by rw [z_up_ne (by omega), h17, g2]
    generalize z_up u3 (w + 7) p (sV1 v T e (13 + p) + 1) = u4 at R4 F4 C4 h174 ⊢
    obtain ⟨b1, b2, b3⟩ := a1.v2
    rw [R4.s14, sV2_o a1 (by omega), hbt]
    obtain ⟨u', e', R', C', F', k1, k2⟩ := pc_tl R4 b1 C4 hL (sBt_lt (sV1 v T e)) wd
    exact ⟨u', e', R', C', F4.tr F', k1.trans h174, k2⟩
/-- the reference's row behind a stop -/
def rIt (v : Nat → Int32) (T : zT) (e : Nat) (wd : Bool) : Nat → Int32 := upd (sLog (sH5 v T e wd) (sHg v T e) (sHp v T e)) 9 (z_min 9999 (sH5 v T e wd 9 + 1))
theorem rIt_o (v : Nat → Int32) (T : zT) (e : Nat) (wd : Bool) {j : Nat} (hj : j < 65) (h11 : j ≠ 11) : rIt v T e wd j = sH v T e wd j := by
  unfold rIt sH upd
  split
  · rfl
  · unfold sLog
    rw [if_neg (by omega), if_neg (by omega), if_neg (by omega), if_neg (by omega), if_neg (by omega), if_neg h11]
theorem rIt_I {v : Nat → Int32} (h : IV v) (T : zT) (e : Nat) (wd : Bool) : IV (rIt v T e wd) ∧ rN (rIt v T e wd) = rN v ∧ (∀ j, j < 3 ∨ j = 5 ∨ j = 7 ∨ j = 8 ∨ 305 ≤ j → rIt v T e wd j = v j) := by
  obtain ⟨a1, a2, a3⟩ := sH_I h T e wd
  have := a1.ex (v' := rIt v T e wd) (fun k hk => rIt_o v T e wd (by omega) (by omega))
  refine ⟨this.1, this.2.1.trans a2, fun j hj => ?_⟩
  by_cases h65 : j < 65
  · rw [rIt_o v T e wd h65 (by omega)]; exact a3 j (by omega)
  · obtain ⟨⟨-, -, b3⟩, -, -⟩ := sH5_I h T e wd
    unfold rIt
    rw [upd_ne (by omega)]
    unfold sLog
    rw [if_neg (by omega), if_neg (by omega), if_neg (by omega), if_neg (by omega), if_neg (by omega), if_neg (by omega)]
    exact b3 j (by omega)
theorem rIt_law {v : Nat → Int32} (h : IV v) {T : zT} (hT : RLw v T) (e : Nat) (wd : Bool) : RLw (rIt v T e wd) T := by
  obtain ⟨-, -, a3⟩ := rIt_I h T e wd
  exact hT.ex (a3 1 (by omega)) (a3 2 (by omega)) (fun j h1 h2 => a3 j (by omega))
theorem sFar_d {v : Nat → Int32} (T : zT) : sFar (sD v) T = sFar v T := by
  have hd : ∀ j, j ≠ 12 → sD v j = v j := fun j hj => upd_ne hj
  have e3 := rN_of (hd 3 (by omega))
  have e4 := tP_of (hd 4 (by omega))
  have hP : ∀ c, Pin (sD v) c = Pin v c := fun c => by funext r; unfold Pin; rw [hd _ (by omega)]
  have h1 : sFirst (sD v) (sD v 4) = sFirst v (v 4) := by unfold sFirst; rw [e3, hd 4 (by omega), hP]
  unfold sFar
  rw [h1, e4]
  congr 1
  by_cases hc : sFirst v (v 4) = -1
  · rw [if_pos hc, if_pos hc]
  · rw [if_neg hc, if_neg hc]
    congr 1
    unfold sFa pls
    rw [e4, hP, e3, hd _ (by omega), hd _ (by omega), hd _ (by omega), hd 9 (by omega), hd 6 (by omega), hd _ (by omega)]
def rTl (K : Int32 → Int32 → Int32 → Int32 → zU → Option (Int32 × zU)) (x1 x2 x3 x4 g z : Int32) (u : zU) : Option (Int32 × zU) := z_b2 (f_X11_collects z u) (fun r7 u8 => (f_X11_firstWaiting u8).bind (fun r9 => f_X11_goes_116 K 5000 x1 x2 x3 x4 g z r7 r9 u8))
theorem pr_tl {K : Int32 → Int32 → Int32 → Int32 → zU → Option (Int32 × zU)} {x1 x2 x3 x4 g : Int32} {u : zU} {T : zT} (hV : IV (u 1)) (hT : RLw (u 1) T) {b : Nat} (hb : b < 8) : ∃ u', rTl K x1 x2 x3 x4 g (nI b) u = pEnd K x1 x2 x3 x4 g (sCC (u 1) T b).1 u' ∧ u' 1 = sFill (sCC (u 1) T b).2 b ∧ RF u u' := by
  obtain ⟨u1, e1, k1, F1⟩ := pr_collects hV hT hb
  have I1 := sCC_I hV T hb (rN (u 1)) (Nat.le_refl _)
  have hV1 : IV (u1 1) := by rw [k1]; exact I1.1
  unfold rTl
  rw [e1]
  simp only [z_b2]
  rw [Option.bind_some, pr_firstWaiting hV1, Option.bind_some, pr_fill hV1 hb]
  exact ⟨_, rfl, by rw [zst_e, k1]; rfl, F1.st _⟩
