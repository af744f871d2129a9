/-! PURE, 41: the start -/
def T00 : zT := fun _ _ => 0
theorem st_rw : ∀ k, k < 65 → (match kap k with | some p => decide (uI_X10_init (6 + p.1) p.2 = uI_X11_init 1 k) | none => true) = true := by decide +kernel
theorem st_RW : RW uI_X10_init 6 (uI_X11_init 1) := fun k o i hk => by
  have h := st_rw k (kap_lt hk)
  rw [hk] at h
  exact of_decide_eq_true h
theorem st_v3 : uI_X11_init 1 3 = 0 := by decide +kernel
theorem st_rN : rN (uI_X11_init 1) = 0 := by unfold rN; rw [st_v3]; rfl
theorem st_v10 : uI_X11_init 1 10 = 0 := by decide +kernel
theorem st_wN : wN (uI_X11_init 1) = 0 := by unfold wN; rw [st_v10]; rfl
theorem st_v4 : uI_X11_init 1 4 = 0 := by decide +kernel
theorem st_tP : tP (uI_X11_init 1) = 0 := by unfold tP; rw [st_v4]; rfl
theorem st_b : ∀ r, r < 8 → uI_X11_init 1 (26 + 4 * r) = 0 ∧ uI_X11_init 1 (27 + 4 * r) = 0 ∧ uI_X11_init 1 (28 + 4 * r) = 0 ∧ uI_X11_init 1 (17 + r) = 5 := by decide +kernel
theorem st_c : uI_X11_init 1 5 = 5 ∧ uI_X11_init 1 6 = 0 ∧ uI_X11_init 1 7 = 4 ∧ uI_X11_init 1 8 = 0 ∧ uI_X11_init 1 9 = 0 := by decide +kernel
theorem sm0 {x : Int32} {m : Nat} (h : x = 0) : sm x m := ⟨0, Nat.zero_le _, h⟩
theorem sm5 {x : Int32} {m : Nat} (h : x = 5) (hm : 5 ≤ m) : sm x m := ⟨5, hm, h⟩
theorem st_IV : IV (uI_X11_init 1) := by
  obtain ⟨c1, c2, c3, c4, c5⟩ := st_c
  refine ⟨⟨⟨?_, ?_⟩, ⟨?_, ?_⟩, ⟨?_, ?_⟩, ?_⟩, ⟨?_, ?_, ?_, ?_, ?_, ?_⟩, ?_, ?_, ?_⟩
  · rw [st_rN, st_v3]; rfl
  · rw [st_rN]; decide
  · rw [st_tP, st_v4]; rfl
  · rw [st_tP]; decide
  · rw [st_wN, st_v10]; rfl
  · rw [st_wN, st_rN]; rfl
  · intro r hr; rw [st_rN] at hr; exact absurd hr (by omega)
  · intro r hr
    obtain ⟨b1, b2, b3, b4⟩ := st_b r hr
    exact ⟨sm0 b1, sm0 b2, sm0 b3, sm5 b4 (by decide)⟩
  · exact sm5 c1 (by decide)
  · exact sm0 c2
  · exact ⟨4, by decide, by decide, c3⟩
  · exact sm0 c4
  · exact sm0 c5
  · intro i hi; rw [st_wN] at hi; exact absurd hi (by omega)
  · intro i j hi; rw [st_wN] at hi; exact absurd hi (by omega)
  · intro x hx; rw [st_rN] at hx; exact absurd hx (by omega)
theorem st_tot (u2 : zU) (fa wh : Nat) (b : Bool) : f_X4_total (q00 0) fa (nI wh) b u2 = some (0, u2) := by
  rw [f_X4_total_e, f_X4_total_9_s, if_pos (show nI (q00 0 8) ≤ (0 : Int32) by decide)]
theorem st_CL : CL uI_X10_init (q00 0) T00 := fun u2 fa F wh _ _ _ _ => ⟨⟨u2, st_tot u2 fa wh true, fun _ _ => rfl, fun _ _ _ => rfl⟩, u2, st_tot u2 fa wh false, fun _ _ => rfl, fun _ _ _ => rfl⟩
theorem st_m : uI_X11_init 1 1 = -1 ∧ uI_X10_init (q00 0 0) 0 = -1 ∧ uI_X10_init 36 2 = 0 ∧ uI_X10_init 36 1 = 0 ∧ uI_X11_init 1 11 = 0 ∧ uI_X10_init 0 10 = 0 ∧ uI_X11_init 1 0 = 0 := by decide +kernel
theorem st_n : uI_X10_init 1 1 = 0 ∧ uI_X11_init 0 8 = 0 ∧ uI_X10_init 0 11 = -1 ∧ uI_X11_init 0 12 = -1 ∧ uI_X10_init 38 2 = 0 ∧ uI_X11_init 0 6 = 0 ∧ uI_X10_init 38 1 = 0 ∧ uI_X10_init 0 9 = 0 ∧ uI_X11_init 0 3 = 0 := by decide +kernel
theorem st_28 : uI_X10_init 28 1 = 14 ∧ uI_X10_init 29 1 = 12 := by decide +kernel
theorem st_tp : ∀ k, k < 400 → uI_X10_init 2 k = 0 ∧ uI_X11_init 5 k = 0 := by decide +kernel
theorem st_okL : okL (q00 0) := by
  refine ⟨fun j h0 h8 => Or.inr ⟨0, by decide, ?_⟩, Or.inr ⟨0, by decide, rfl⟩, by decide⟩
  unfold q00
  rw [if_neg (by omega), if_pos h8]
theorem RR.start : RR q00 uI_X10_init uI_X11_init := by
  obtain ⟨m1, m2, m3, m4, m5, m6, m7⟩ := st_m
  obtain ⟨n1, n2, n3, n4, n5, n6, n7, n8, n9⟩ := st_n
  refine ⟨T00, T00, ⟨⟨st_RW, st_IV, st_CL, Or.inl ⟨by rw [m1]; decide, fun _ _ => rfl⟩⟩, fun o => sm0 rfl, m2.trans m1.symm, st_okL, ?_, ?_⟩, ⟨0, 0, by decide, by decide, m3, m4, m5, fun ago col h => absurd h (by omega)⟩, ⟨m6.trans m7.symm, sm0 m7⟩, ⟨0, ⟨by decide, st_28⟩, n1, n2, fun k hk => ⟨(st_tp k hk).1.trans (st_tp k hk).2.symm, sm0 (st_tp k hk).2⟩⟩, n3.trans n4.symm, ⟨0, 0, by decide, by decide, n5, n6, n7, fun b hb => absurd hb (by omega)⟩, Or.inl ⟨n8, n9⟩⟩
  · intro c hc; rw [st_rN]; exact Nat.zero_le _
  · intro r hr; rw [st_rN] at hr; exact absurd hr (by omega)
