/-! PURE, 6: what the law says of a rider: owing, going farther -/
theorem CLk.cl {u u' : zU} {L : Nat → Nat} {T : zT} (h : CLk L u u') (hC : CL u L T) : CL u' L T := hC.fr h.2
def sOw (v : Nat → Int32) (T : zT) (x c : Nat) (fare : Int32) : Int32 := z_max 0 (fare + T 1 (some (sFa v x c)) - T 2 (some (sFa v x c)))
/-- the law's cells lie apart from the wheel's -/
def Lap (w : Nat) (L : Nat → Nat) : Prop := ∀ j, 0 < j → j < 8 → ¬ (w ≤ L j ∧ L j < w + 9)
theorem pc_owesBy {u : zU} {w : Nat} {v : Nat → Int32} {L : Nat → Nat} {T : zT} (hR : RW u w v) (hV : IV v) (hC : CL u L T) (hL : Lap w L) {x c : Nat} (hx : x < rN v) (hc : c < 8) (hp : v (25 + 4 * x) = nI c) (fare : Int32) :
    ∃ u', f_X9_owesBy w L (nI x) fare u = some (sOw v T x c fare, u') ∧ RW u' w v ∧ CL u' L T ∧ Fr w L u u' ∧ ∀ j, u' w j = u w j := by
  obtain ⟨u1, e1, f1, k1⟩ := pc_tellFacts hR hV L hx hc hp
  have hl7 := hL 7 (by decide) (by decide)
  have hC1 : CL u1 L T := hC.fr (fun j a b => k1 _ (fun e => hL j a (by omega) (by omega)))
  obtain ⟨u2, e2, k2⟩ := (hC1 u1 (w + 8) (sFa v x c) 1 (fun _ _ _ => rfl) (by omega) f1 (by decide)).1
  have hC2 := k2.cl hC1
  obtain ⟨u3, e3, k3⟩ := (hC2 u2 (w + 8) (sFa v x c) 2 (fun _ _ _ => rfl) (by omega) (fun j hj => by rw [k2.1 _ (by omega)]; exact f1 j hj) (by decide)).1
  have hf : ∀ r, r ≠ w + 8 → r ≠ L 7 → u3 r = u r := fun r h1 h2 => by rw [k3.1 r h2, k2.1 r h2, k1 r h1]
  refine ⟨u3, ?_, hR.fr (fun r h1 h2 => hf r (by omega) (by omega)), k3.cl hC2, fun r h1 h2 => hf r (by omega) h2, fun j => by rw [hf w (by omega) (by omega)]⟩
  rw [f_X9_owesBy_e, e1]
  simp only [Option.bind_some]
  rw [show (1 : Int32) = nI 1 from rfl, e2]
  simp only [z_b2, Option.bind_some]
  rw [show (2 : Int32) = nI 2 from rfl, e3]
  rfl
def sFar (v : Nat → Int32) (T : zT) : Int32 := T 0 (if sFirst v (v 4) = -1 then none else some (sFa v (sFirst v (v 4)).toNatClampNeg (tP v)))
theorem pc_goesFarther {u : zU} {w : Nat} {v : Nat → Int32} {L : Nat → Nat} {T : zT} (hR : RW u w v) (hV : IV v) (hC : CL u L T) (hL : Lap w L) :
    ∃ u', f_X9_goesFarther w L u = some (sFar v T, u') ∧ RW u' w v ∧ CL u' L T ∧ Fr w L u u' ∧ ∀ j, u' w j = u w j := by
  have hl7 := hL 7 (by decide) (by decide)
  have h8 := hV.n8
  rw [f_X9_goesFarther_e, hR.s14, pc_firstIn hR hV]
  simp only [Option.bind_some]
  unfold sFar
  rcases sFirst_spec v (v 4) with ⟨h1, -⟩ | ⟨x, hx, h1, hp, -⟩
  · rw [h1, if_pos rfl, if_pos rfl, if_pos rfl]
    obtain ⟨u2, e2, k2⟩ := (hC u (w + 8) (u (w + 8)) 0 (fun _ _ _ => rfl) (by omega) (fun _ _ => rfl) (by decide)).2
    rw [show (0 : Int32) = nI 0 from rfl, e2]
    exact ⟨u2, rfl, hR.fr (fun r a b => k2.1 r (by omega)), k2.cl hC, fun r a b => k2.1 r b, fun j => by rw [k2.1 w (by omega)]⟩
  · have hm : nI x ≠ -1 := pu_m1 (by omega)
    rw [h1, if_neg hm, if_neg hm, nI_clamp (by omega)]
    have ht := hV.t8
    obtain ⟨u1, e1, f1, k1⟩ := pc_tellFacts hR hV L hx ht (hp.trans hV.t)
    have hC1 : CL u1 L T := hC.fr (fun j a b => k1 _ (fun e => hL j a (by omega) (by omega)))
    obtain ⟨u2, e2, k2⟩ := (hC1 u1 (w + 8) (sFa v x (tP v)) 0 (fun _ _ _ => rfl) (by omega) f1 (by decide)).1
    rw [e1]
    simp only [Option.bind_some, if_neg hm]
    rw [show (0 : Int32) = nI 0 from rfl, e2]
    have hf : ∀ r, r ≠ w + 8 → r ≠ L 7 → u2 r = u r := fun r h1 h2 => by rw [k2.1 r h2, k1 r h1]
    exact ⟨u2, rfl, hR.fr (fun r a b => hf r (by omega) (by omega)), k2.cl hC1, fun r a b => hf r (by omega) b, fun j => by rw [hf w (by omega) (by omega)]⟩
/-- what the reference's inner calls leave -/
def RF (u u' : zU) : Prop := u' 2 = u 2 ∧ u' 3 = u 3 ∧ u' 4 = u 4 ∧ u' 5 = u 5 ∧ u' 0 0 = u 0 0 ∧ u' 0 3 = u 0 3 ∧ u' 0 6 = u 0 6 ∧ u' 0 8 = u 0 8 ∧ u' 0 12 = u 0 12
theorem RF.rf {u : zU} : RF u u := ⟨rfl, rfl, rfl, rfl, rfl, rfl, rfl, rfl, rfl⟩
theorem RF.tr {u u1 u2 : zU} (h : RF u u1) (k : RF u1 u2) : RF u u2 := by
  obtain ⟨a1, a2, a3, a4, a5, a6, a7, a8, a9⟩ := h
  obtain ⟨b1, b2, b3, b4, b5, b6, b7, b8, b9⟩ := k
  exact ⟨b1.trans a1, b2.trans a2, b3.trans a3, b4.trans a4, b5.trans a5, b6.trans a6, b7.trans a7, b8.trans a8, b9.trans a9⟩
theorem RF.st {u u1 : zU} (h : RF u u1) (f : Nat → Int32) : RF u (zst u1 1 f) := h
theorem z_01 (u : zU) (k : Nat) (x : Int32) : z_up u 0 k x 1 = u 1 := rfl
theorem z_61 (u : zU) (k : Nat) (x : Int32) : z_up u 6 k x 1 = u 1 := rfl
theorem z_60 (u : zU) (k : Nat) (x : Int32) : z_up u 6 k x 0 = u 0 := rfl
theorem z_06 (u : zU) (k : Nat) (x : Int32) : z_up u 0 k x 6 = u 6 := rfl
theorem z_00 (u : zU) (k : Nat) (x : Int32) : z_up u 0 k x 0 = upd (u 0) k x := rfl
theorem z_66 (u : zU) (k : Nat) (x : Int32) : z_up u 6 k x 6 = upd (u 6) k x := rfl
def pTail (u : zU) : Option zU := z_let (u 0 12) (fun z4 => z_let (z_up u 0 12 (-1 : Int32)) (fun u5 => z_let (z_up u5 0 9 (305 : Int32)) (fun u6 => z_let (z_up u6 0 10 (u6 1 2)) (fun u7 => z_let (z_up u7 0 11 (0 : Int32)) (fun u8 => z_let (z_up u8 0 13 (0 : Int32)) (fun u9 => z_b2 (f_X11_read true u9) (fun _ u11 => z_let (z_up u11 0 12 z4) (fun u12 => some u12))))))))
theorem pr_tail {u : zU} {T : zT} {o : Option (Nat → Int32)} (h1 : (1 : Int32) ≤ u 1 1) (hT : RLw (u 1) T) (hF : FO u o) (h18 : u 0 18 = 0) (h19 : u 0 19 = 0) : ∃ u', pTail u = some u' ∧ u' 1 = u 1 ∧ RF u u' ∧ u' 0 18 = T 0 o ∧ u' 0 19 = T 1 o - T 2 o := by
  rcases hT with ⟨a, -⟩ | ⟨-, hT⟩
  · exact absurd h1 (by lia)
  · have hF2 : FO (z_up (z_up (z_up (z_up (z_up u 0 12 (-1)) 0 9 305) 0 10 (u 1 2)) 0 11 0) 0 13 0) o := by
      cases o with
      | none => exact hF
      | some F => exact hF
    obtain ⟨n, u', e, k1, k2, k3, k4⟩ := hT (z_up (z_up (z_up (z_up (z_up u 0 12 (-1)) 0 9 305) 0 10 (u 1 2)) 0 11 0) 0 13 0) o rfl (fun _ _ _ => rfl) rfl rfl rfl rfl rfl hF2
    refine ⟨z_up u' 0 12 (u 0 12), ?_, ?_, ⟨?_, ?_, ?_, ?_, ?_, ?_, ?_, ?_, ?_⟩, ?_, ?_⟩
    · unfold pTail
      simp only [z_let]
      rw [show (z_up (z_up u 0 12 (-1)) 0 9 305) 1 2 = u 1 2 from rfl, e]
      rfl
    · exact k1 1 (by decide)
    · exact k1 2 (by decide)
    · exact k1 3 (by decide)
    · exact k1 4 (by decide)
    · exact k1 5 (by decide)
    · exact k2 0 (by decide) (by decide) (by decide) (by decide) (by decide)
    · exact k2 3 (by decide) (by decide) (by decide) (by decide) (by decide)
    · exact k2 6 (by decide) (by decide) (by decide) (by decide) (by decide)
    · exact k2 8 (by decide) (by decide) (by decide) (by decide) (by decide)
    · rfl
    · show u' 0 18 = _
      rw [k3, show (z_up (z_up (z_up (z_up (z_up u 0 12 (-1)) 0 9 305) 0 10 (u 1 2)) 0 11 0) 0 13 0) 0 18 = u 0 18 from rfl, h18]
      exact Int32.zero_add _
    · show u' 0 19 = _
      rw [k4, show (z_up (z_up (z_up (z_up (z_up u 0 12 (-1)) 0 9 305) 0 10 (u 1 2)) 0 11 0) 0 13 0) 0 19 = u 0 19 from rfl, h19, Int32.zero_add]
theorem RF.u0 {u u1 : zU} (h : RF u u1) {k : Nat} {x : Int32} (hk : k ≠ 0 ∧ k ≠ 3 ∧ k ≠ 6 ∧ k ≠ 8 ∧ k ≠ 12) : RF u (z_up u1 0 k x) := by
  obtain ⟨a1, a2, a3, a4, a5, a6, a7, a8, a9⟩ := h
  refine ⟨a1, a2, a3, a4, ?_, ?_, ?_, ?_, ?_⟩
  · rw [z_00, upd_ne (by omega)]; exact a5
  · rw [z_00, upd_ne (by omega)]; exact a6
  · rw [z_00, upd_ne (by omega)]; exact a7
  · rw [z_00, upd_ne (by omega)]; exact a8
  · rw [z_00, upd_ne (by omega)]; exact a9
theorem RF.u6 {u u1 : zU} (h : RF u u1) {k : Nat} {x : Int32} : RF u (z_up u1 6 k x) := h
/-- the reference's asking, of a rider that sits -/
theorem pr_asks {u : zU} {T : zT} (hV : IV (u 1)) (hT : RLw (u 1) T) {x c : Nat} (hx : x < rN (u 1)) (hc : c < 8) (hp : u 1 (25 + 4 * x) = nI c) :
    ∃ u', f_X11_asks (nI x) u = some u' ∧ u' 1 = u 1 ∧ RF u u' ∧ u' 0 18 = T 0 (some (sFa (u 1) x c)) ∧ u' 0 19 = T 1 (some (sFa (u 1) x c)) - T 2 (some (sFa (u 1) x c)) := by
  have h8 := hV.n8
  have hm : nI x ≠ -1 := pu_m1 (by omega)
  have hx8 : x < 8 := by omega
  by_cases h1 : (1 : Int32) ≤ u 1 1
  · have hend : ∀ a b : Int32, a = (if u 1 (27 + 4 * x) < 50 then 0 else 1) → b = (if bcnt (Pin (u 1) (nI c)) (rN (u 1)) = 1 then 1 else 0) → ∃ u', pTail (z_up (z_up (z_up (z_up (z_up (z_up (z_up (z_up (z_up (z_up (z_up (z_up u 0 18 0) 0 19 0) 0 17 0) 6 0 (nI c)) 6 1 (u 1 (26 + 4 * x))) 6 2 (u 1 (28 + 4 * x))) 6 3 (u 1 (17 + c))) 6 4 (u 1 9)) 6 5 (nI (hgt (pls (u 1) c)))) 6 6 (u 1 6 / 100)) 0 15 a) 0 16 b) = some u' ∧ u' 1 = u 1 ∧ RF u u' ∧ u' 0 18 = T 0 (some (sFa (u 1) x c)) ∧ u' 0 19 = T 1 (some (sFa (u 1) x c)) - T 2 (some (sFa (u 1) x c)) := by
      intro a b ha hb
      have hFO : FO (z_up (z_up (z_up (z_up (z_up (z_up (z_up (z_up (z_up (z_up (z_up (z_up u 0 18 0) 0 19 0) 0 17 0) 6 0 (nI c)) 6 1 (u 1 (26 + 4 * x))) 6 2 (u 1 (28 + 4 * x))) 6 3 (u 1 (17 + c))) 6 4 (u 1 9)) 6 5 (nI (hgt (pls (u 1) c)))) 6 6 (u 1 6 / 100)) 0 15 a) 0 16 b) (some (sFa (u 1) x c)) := by
        refine ⟨⟨rfl, ?_, ?_⟩, ?_, ha, hb⟩
        · show (if u 1 (27 + 4 * x) < 50 then (0 : Int32) else 1) = 0 ∨ (if u 1 (27 + 4 * x) < 50 then (0 : Int32) else 1) = 1
          by_cases h : u 1 (27 + 4 * x) < 50
          · rw [if_pos h]; exact Or.inl rfl
          · rw [if_neg h]; exact Or.inr rfl
        · show (if bcnt (Pin (u 1) (nI c)) (rN (u 1)) = 1 then (1 : Int32) else 0) = 0 ∨ (if bcnt (Pin (u 1) (nI c)) (rN (u 1)) = 1 then (1 : Int32) else 0) = 1
          by_cases h : bcnt (Pin (u 1) (nI c)) (rN (u 1)) = 1
          · rw [if_pos h]; exact Or.inr rfl
          · rw [if_neg h]; exact Or.inl rfl
        intro j hj
        match j, hj with
        | 0, _ => rfl
        | 1, _ => rfl
        | 2, _ => rfl
        | 3, _ => rfl
        | 4, _ => rfl
        | 5, _ => rfl
        | 6, _ => rfl
      obtain ⟨u', e, k1, k2, k3⟩ := pr_tail (T := T) (o := some (sFa (u 1) x c)) (u := z_up (z_up (z_up (z_up (z_up (z_up (z_up (z_up (z_up (z_up (z_up (z_up u 0 18 0) 0 19 0) 0 17 0) 6 0 (nI c)) 6 1 (u 1 (26 + 4 * x))) 6 2 (u 1 (28 + 4 * x))) 6 3 (u 1 (17 + c))) 6 4 (u 1 9)) 6 5 (nI (hgt (pls (u 1) c)))) 6 6 (u 1 6 / 100)) 0 15 a) 0 16 b) h1 hT hFO rfl rfl
      refine ⟨u', e, k1, RF.tr ?_ k2, k3⟩
      refine RF.u0 (RF.u0 ?_ (by decide)) (by decide)
      refine RF.u6 (RF.u6 (RF.u6 (RF.u6 (RF.u6 (RF.u6 (RF.u6 ?_))))))
      exact RF.u0 (RF.u0 (RF.u0 RF.rf (by decide)) (by decide)) (by decide)
    rw [f_X11_asks_e]
    simp only [z_let]
    rw [show (z_up (z_up u 0 18 0) 0 19 0) 1 1 = u 1 1 from rfl, if_pos h1, if_neg hm, if_neg hm, pr_of0 hx8]
    simp only [Option.bind_some, z_01]
    rw [hp, pr_of1 hx8]
    simp only [Option.bind_some, z_01, z_61]
    rw [pr_of3 hx8]
    simp only [Option.bind_some, z_01, z_61]
    rw [pu_l17, if_pos (pu_in (by omega) (by decide)), nI_clamp (by omega), pr_height (by simp only [z_01, z_61]; exact hV) hc]
    simp only [z_01, z_61]
    rw [pr_of2 hx8]
    simp only [Option.bind_some, z_01, z_61]
    have hb8 := bcnt_le (Pin (u 1) (nI c)) (rN (u 1))
    by_cases h50 : u 1 (27 + 4 * x) < 50
    · rw [if_pos h50, pr_those (by simp only [z_01, z_61]; exact hV)]
      simp only [Option.bind_some, z_01, z_61]
      rw [pu_bits h8]
      simp only [Option.bind_some, z_01, z_61, pu_lit 1, nI_eq (show bcnt (Pin (u 1) (nI c)) (rN (u 1)) < 2 ^ 31 by omega) (show 1 < 2 ^ 31 by decide)]
      by_cases hb : bcnt (Pin (u 1) (nI c)) (rN (u 1)) = 1
      · rw [if_pos hb]; exact hend 0 1 (by rw [if_pos h50]) (by rw [if_pos hb])
      · rw [if_neg hb]; exact hend 0 0 (by rw [if_pos h50]) (by rw [if_neg hb])
    · rw [if_neg h50, pr_those (by simp only [z_01, z_61]; exact hV)]
      simp only [Option.bind_some, z_01, z_61]
      rw [pu_bits h8]
      simp only [Option.bind_some, z_01, z_61, pu_lit 1, nI_eq (show bcnt (Pin (u 1) (nI c)) (rN (u 1)) < 2 ^ 31 by omega) (show 1 < 2 ^ 31 by decide)]
      by_cases hb : bcnt (Pin (u 1) (nI c)) (rN (u 1)) = 1
      · rw [if_pos hb]; exact hend 1 1 (by rw [if_neg h50]) (by rw [if_pos hb])
      · rw [if_neg hb]; exact hend 1 0 (by rw [if_neg h50]) (by rw [if_neg hb])
  · rcases hT with ⟨-, hT⟩ | ⟨a1, -⟩
    · refine ⟨z_up (z_up u 0 18 0) 0 19 0, ?_, rfl, (RF.rf.u0 (by decide)).u0 (by decide), ?_, ?_⟩
      · rw [f_X11_asks_e]
        simp only [z_let]
        rw [show (z_up (z_up u 0 18 0) 0 19 0) 1 1 = u 1 1 from rfl, if_neg h1]
      · rw [hT]; rfl
      · rw [hT, hT]; rfl
    · exact absurd a1 h1
theorem pr_asksNo {u : zU} {T : zT} (hT : RLw (u 1) T) {a : Int32} (ha : a = -1) :
    ∃ u', f_X11_asks a u = some u' ∧ u' 1 = u 1 ∧ RF u u' ∧ u' 0 18 = T 0 none ∧ u' 0 19 = T 1 none - T 2 none := by
  by_cases h1 : (1 : Int32) ≤ u 1 1
  · obtain ⟨u', e, k1, k2, k3⟩ := pr_tail (T := T) (o := none) (u := z_up (z_up (z_up u 0 18 0) 0 19 0) 0 17 1) h1 hT rfl rfl rfl
    refine ⟨u', ?_, k1, RF.tr (((RF.rf.u0 (by decide)).u0 (by decide)).u0 (by decide)) k2, k3⟩
    rw [f_X11_asks_e]
    simp only [z_let]
    rw [show (z_up (z_up u 0 18 0) 0 19 0) 1 1 = u 1 1 from rfl, if_pos h1, if_pos ha, if_pos ha]
    exact e
  · rcases hT with ⟨-, hT⟩ | ⟨a1, -⟩
    · refine ⟨z_up (z_up u 0 18 0) 0 19 0, ?_, rfl, (RF.rf.u0 (by decide)).u0 (by decide), ?_, ?_⟩
      · rw [f_X11_asks_e]
        simp only [z_let]
        rw [show (z_up (z_up u 0 18 0) 0 19 0) 1 1 = u 1 1 from rfl, if_neg h1]
      · rw [hT]; rfl
      · rw [hT, hT]; rfl
    · exact absurd ‹(1 : Int32) ≤ u 1 1› h1
theorem pr_owesBy {u : zU} {T : zT} (hV : IV (u 1)) (hT : RLw (u 1) T) {x c : Nat} (hx : x < rN (u 1)) (hc : c < 8) (hp : u 1 (25 + 4 * x) = nI c) (fare : Int32) :
    ∃ u', f_X11_owesBy (nI x) fare u = some (sOw (u 1) T x c fare, u') ∧ u' 1 = u 1 ∧ RF u u' := by
  have h8 := hV.n8
  obtain ⟨u', e, k1, k2, k3, k4⟩ := pr_asks hV hT hx hc hp
  refine ⟨u', ?_, k1, k2⟩
  rw [f_X11_owesBy_e, pr_waits (by omega), hp, decide_eq_false (pu_m1 (show c < 2 ^ 31 by omega))]
  simp only [Option.bind_some]
  rw [if_neg (by decide), e]
  simp only [Option.bind_some, z_let, f_X11_greater_e]
  rw [k4]
  unfold sOw z_max
  rw [show fare + (T 1 (some (sFa (u 1) x c)) - T 2 (some (sFa (u 1) x c))) = fare + T 1 (some (sFa (u 1) x c)) - T 2 (some (sFa (u 1) x c)) by lia]
  congr 2
  generalize fare + T 1 (some (sFa (u 1) x c)) - T 2 (some (sFa (u 1) x c)) = y
  by_cases h0 : (0 : Int32) ≤ y
  · rw [if_pos h0]
    by_cases h1 : (0 : Int32) < y
    · rw [if_pos h1]
    · rw [if_neg h1]; lia
  · rw [if_neg h0, if_neg (by lia)]
theorem pr_fartherNow {u : zU} {T : zT} (hV : IV (u 1)) (hT : RLw (u 1) T) : ∃ u', f_X11_fartherNow u = some (sFar (u 1) T, u') ∧ u' 1 = u 1 ∧ RF u u' := by
  have h8 := hV.n8
  rw [f_X11_fartherNow_e, pr_governor hV]
  simp only [Option.bind_some]
  unfold sFar
  rcases sFirst_spec (u 1) (u 1 4) with ⟨h1, -⟩ | ⟨x, hx, h1, hp, -⟩
  · rw [h1, if_pos rfl]
    obtain ⟨u', e, k1, k2, k3, k4⟩ := pr_asksNo hT (a := -1) rfl
    rw [e]
    exact ⟨u', by simp only [Option.bind_some]; rw [k3], k1, k2⟩
  · rw [h1, if_neg (pu_m1 (by omega)), nI_clamp (by omega)]
    obtain ⟨u', e, k1, k2, k3, k4⟩ := pr_asks hV hT hx hV.t8 (hp.trans hV.t)
    rw [e]
    exact ⟨u', by simp only [Option.bind_some]; rw [k3], k1, k2⟩
