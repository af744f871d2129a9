/-! MACHINE, 4: how such a method's call goes -/
theorem wC.k {p : Program} {c : Code} {cc : ByteArray} {s : State} {m : MethodId} {args : Array Value} {own : String} {D : zD} {A1 : Nat → Prop} {ob : Nat} {dJ : ClassId} {meth : Method} {maxL : Nat} {hh : List (Nat × Nat × Nat × Nat)} (C : wC p c cc s m args own D A1 ob dJ meth maxL hh) {U : State} (hU : U.heap = s.heap) (hW : s.WarmedH U.vm) : z_K D A1 U ∧ z_K2 U := ⟨(C.1.2.2.2.2.at hW hU va_S.rf).narrow (fun _ h => Or.inl h), C.2.1.at hW⟩
section ZWB
variable {p : Program} {l : Launch} {e : Env} {s : State} {m : MethodId} {args : Array Value} {below : List Frame} {meth : Method} {c : Code} {Q : State → Prop}
variable {cc : ByteArray} {pc : Nat} {ls : Array Slot} {D : zD} {A1 : Nat → Prop} {b ob maxL : Nat} {dJ : ClassId} {own : String} {hh : List (Nat × Nat × Nat × Nat)} {Φ : zG → zq → zU → Prop}
variable {G : zG} {q q' : zq} {u u' : zU} {y : MethodName} {cy : ByteArray} {mL fr lo mc ms n index : Nat} {As st : List Value} {v : Int32} {E : String}
theorem w_out {H1 : Heap} (hO : ∃ x, oC dJ ob s.heap x) (hn : ¬ A1 ob) (hk : ∀ a : Nat, a < s.heap.size → ¬ A1 a → H1[a]? = s.heap[a]?) : ∃ x, oC dJ ob H1 x := by
  obtain ⟨x, f, h1, h2⟩ := hO
  exact ⟨x, f, by rw [hk ob (Array.getElem?_eq_some_iff.mp h1).1 hn]; exact h1, h2⟩
theorem w_cMT (C : wC p c cc s m args own D A1 ob dJ meth maxL hh) (hT : zTop G q) (hW : z_W D A1 b (zg G q) u s.heap) (hO : ∃ x, oC dJ ob s.heap x) (hls : ls.size = maxL) (hM : z_MT l D A1 b G y cy mL (some .int) fr lo (.ref (b + 0) :: As) q u (some (.int v)) q' u') (Y : z_YV own index y cy mL (some .int) 9 n) (hR : fr + 1 ≤ 45 ∧ 8 + (mL + 11) + lo ≤ 1500)
    (hst : st = As.reverse ++ .ref (b + 0) :: [.int 0, .ref ob]) (hn : As.length = n) (hdg : decode cc pc = .ok (.invokevirtual index, 3)) (hΦ : Φ G q' u')
    (kk : ∀ (H1 : Heap) (locs1 : List Loc), (∃ G' q2 u2, z_W D A1 b (zg G' q2) u2 H1 ∧ zTop G' q2 ∧ Φ G' q2 u2) → (∃ x, oC dJ ob H1 x) → va_S (AL A1 ob) s.heap H1 locs1 → W p l e wRm s m args below meth c H1 locs1 0 0 Q (F0 m (pc + 3) ls [.int v, .int 0, .ref ob])) : W p l e wRm s m args below meth c s.heap [] 0 0 Q (F0 m pc ls st) :=
  zL_cv (R := wRm) C.1 C.2.2.2.2.1 hls hW va_S.rf hM z_blind (fun U hU hW2 => ⟨rfl, (C.k hU hW2).1, by rw [hU]; exact hW⟩) Y (zk1 (hT.1 0 (by decide))) hR ⟨Nat.zero_le _, Nat.zero_le _⟩ hst hn (Nat.le_of_ble_eq_true rfl) hdg (fun _ h => Or.inl h) (Ψ := fun H => ∃ G' q2 u2, z_W D A1 b (zg G' q2) u2 H ∧ zTop G' q2 ∧ Φ G' q2 u2)
    (fun st0 o t h => ⟨h.1, ⟨G, q', u', h.2.1, h.2.2.2, hΦ⟩, h.2.2.1⟩) (fun H1 locs1 h1 h2 h3 h4 => kk H1 locs1 h1 (w_out hO C.2.2.2.2.2.2.2.1 h3) h4)
theorem w_cMTN (C : wC p c cc s m args own D A1 ob dJ meth maxL hh) (hT : zTop G q) (hW : z_W D A1 b (zg G q) u s.heap) (hO : ∃ x, oC dJ ob s.heap x) (hls : ls.size = maxL) (hM : ∀ N, z_MTN l D A1 b G N y cy mL (some .int) fr lo 7 56 (.ref (b + 0) :: As) q u (some (.int v)) q' u') (Y : z_YV own index y cy mL (some .int) 9 n) (hR : fr + 1 ≤ 45 ∧ 8 + (mL + 11) + lo ≤ 1500)
    (hst : st = As.reverse ++ .ref (b + 0) :: [.int 0, .ref ob]) (hn : As.length = n) (hdg : decode cc pc = .ok (.invokevirtual index, 3)) (hΦ : Φ G q' u')
    (kk : ∀ (H1 : Heap) (locs1 : List Loc), (∃ G' q2 u2, z_W D A1 b (zg G' q2) u2 H1 ∧ zTop G' q2 ∧ Φ G' q2 u2) → (∃ x, oC dJ ob H1 x) → va_S (AL A1 ob) s.heap H1 locs1 → W p l e wRm s m args below meth c H1 locs1 7 56 Q (F0 m (pc + 3) ls [.int v, .int 0, .ref ob])) : W p l e wRm s m args below meth c s.heap [] 0 0 Q (F0 m pc ls st) := by
  have hsz := hW.sz (zk1 (hT.1 0 (by decide)))
  have := zL_cv (R := wRm) (cells := 0) (slots := 0) (Q := Q) (st := st) (rest := [.int 0, .ref ob]) (r0 := 0) C.1 C.2.2.2.2.1 hls hW va_S.rf (hM (s.heap.size - b)) z_blindN (fun U hU hW2 => ⟨⟨rfl, (C.k hU hW2).1, by rw [hU]; exact hW⟩, (C.k hU hW2).2, by rw [hU]; exact hsz, by rw [hU]; exact C.2.2.2.2.2.2.2.2⟩) Y (zk1 (hT.1 0 (by decide))) hR ⟨by decide, by decide⟩ hst hn (Nat.le_of_ble_eq_true rfl) hdg (fun _ h => Or.inl h) (Ψ := fun H => ∃ G' q2 u2, z_W D A1 b (zg G' q2) u2 H ∧ zTop G' q2 ∧ Φ G' q2 u2)
    (fun st0 o t h => ⟨h.1, ⟨G, q', u', h.2.1, h.2.2.2, hΦ⟩, h.2.2.1⟩) (fun H1 locs1 h1 h2 h3 h4 => kk H1 locs1 h1 (w_out hO C.2.2.2.2.2.2.2.1 h3) h4)
  exact this
theorem w_cTX (C : wC p c cc s m args own D A1 ob dJ meth maxL hh) (hT : zTop G q) (hW : z_W D A1 b (zg G q) u s.heap) (hO : ∃ x, oC dJ ob s.heap x) (hls : ls.size = maxL) (hM : z_TX l D A1 b G y cy mL (some .int) fr lo (.ref (b + 0) :: As) q u E q' u') (Y : z_YV own index y cy mL (some .int) 9 n) (hR : fr + 1 ≤ 45 ∧ 8 + (mL + 11) + lo ≤ 1500)
    (hst : st = As.reverse ++ .ref (b + 0) :: [.int 0, .ref ob]) (hn : As.length = n) (hdg : decode cc pc = .ok (.invokevirtual index, 3)) (hΦ : Φ G q' u')
    (kx : ∀ (ce : Cell) (q9 : Addr) (H1 : Heap) (locs1 : List Loc), (∃ G' q2 u2, z_W D A1 b (zg G' q2) u2 H1 ∧ zTop G' q2 ∧ Φ G' q2 u2) → (∃ x, oC dJ ob H1 x) → va_S (AL A1 ob) s.heap H1 locs1 → H1[q9]? = some ce → ce.vm = .none → s.vm.findClass E = some ce.cls → vx_W p l e wRm s m args below meth c H1 locs1 1 6 Q (F0 m pc ls [.int 0, .ref ob]) q9) : W p l e wRm s m args below meth c s.heap [] 0 0 Q (F0 m pc ls st) := by
  have := zL_cvX (R := wRm) (cells := 0) (slots := 0) (Q := Q) (st := st) (rest := [.int 0, .ref ob]) (r0 := 0) C.1 C.2.2.2.2.1 hls hW va_S.rf hM z_blind (fun U hU hW2 => ⟨rfl, (C.k hU hW2).1, by rw [hU]; exact hW⟩) Y (zk1 (hT.1 0 (by decide))) hR ⟨by decide, by decide⟩ hst hn (Nat.le_of_ble_eq_true rfl) hdg (fun _ h => Or.inl h) (Ψ := fun H => ∃ G' q2 u2, z_W D A1 b (zg G' q2) u2 H ∧ zTop G' q2 ∧ Φ G' q2 u2) (E0 := E)
    (fun E9 st0 t h => ⟨h.1, ⟨G, q', u', h.2.1, h.2.2.2, hΦ⟩, h.2.2.1⟩) (fun ce q9 H1 locs1 h1 h2 h3 h4 => kx ce q9 H1 locs1 h1 (w_out hO C.2.2.2.2.2.2.2.1 h3) h4)
  exact this
end ZWB
section ZWC
variable {p : Program} {l : Launch} {e : Env} {s : State} {m : MethodId} {args : Array Value} {below : List Frame} {meth : Method} {c : Code} {Q : State → Prop} {H : Heap} {locs : List Loc} {cells slots : Nat}
variable {cc : ByteArray} {pc : Nat} {ls : Array Slot} {rest : List Value} {D : zD} {A1 : Nat → Prop} {ob maxL : Nat} {dJ : ClassId} {own : String} {E N1 : String} {ce : Cell} {q9 : Addr} {s1 e1 h1 t1 s2 e2 h2 t2 : Nat} {hr : List (Nat × Nat × Nat × Nat)}
theorem w_catch1 (C : wC p c cc s m args own D A1 ob dJ meth maxL ((s1, e1, h1, t1) :: hr)) (hE : E ∈ zExs) (wl : Cond.classLink own t1 E ∈ wsA) (hcov : covers ⟨s1, e1, h1, t1⟩ pc = true) (h0 : t1 ≠ 0) (hcell : H[q9]? = some ce) (hv : ce.vm = .none) (hcl : s.vm.findClass E = some ce.cls)
    (kk : W p l e wRm s m args below meth c H locs cells slots Q (F0 m h1 ls [.ref q9])) : vx_W p l e wRm s m args below meth c H locs cells slots Q (F0 m pc ls rest) q9 := by
  obtain ⟨⟨hx, hb, hts, hown, hK⟩, -, htb, -⟩ := C
  exact zc_catch hown [] ⟨s1, e1, h1, t1⟩ (tableOf hr) htb (fun z hz => by cases hz) hcov h0 (hts _ wl) (z_castable (hK.2.2.2.2.2.2.2.1 E hE) args) hcell hv hcl kk
theorem w_catch2 (C : wC p c cc s m args own D A1 ob dJ meth maxL ((s1, e1, h1, t1) :: (s2, e2, h2, t2) :: hr)) (hE : E ∈ zExs) (hnc : (E, N1) ∈ zNcs) (wl1 : Cond.classLink own t1 N1 ∈ wsA) (wl2 : Cond.classLink own t2 E ∈ wsA) (hcov1 : covers ⟨s1, e1, h1, t1⟩ pc = true) (hcov2 : covers ⟨s2, e2, h2, t2⟩ pc = true) (h01 : t1 ≠ 0) (h02 : t2 ≠ 0) (hcell : H[q9]? = some ce) (hv : ce.vm = .none) (hcl : s.vm.findClass E = some ce.cls)
    (kk : W p l e wRm s m args below meth c H locs cells slots Q (F0 m h2 ls [.ref q9])) : vx_W p l e wRm s m args below meth c H locs cells slots Q (F0 m pc ls rest) q9 := by
  obtain ⟨⟨hx, hb, hts, hown, hK⟩, -, htb, -⟩ := C
  exact zc_catch hown [⟨s1, e1, h1, t1⟩] ⟨s2, e2, h2, t2⟩ (tableOf hr) htb (fun z hz => by
    rw [List.mem_singleton.mp hz]
    exact ⟨hcov1, h01, N1, hts _ wl1, hK.2.2.2.2.2.2.2.2.1 (E, N1) hnc⟩) hcov2 h02 (hts _ wl2) (z_castable (hK.2.2.2.2.2.2.2.1 E hE) args) hcell hv hcl kk
end ZWC
