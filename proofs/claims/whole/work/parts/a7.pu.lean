/-! MACHINE, 7: the law's walk: its world, its steps -/
def A0 (s : State) : Nat → Prop := fun q => s.heap.size ≤ q
def Ax (b1 : Nat) : Nat → Prop := fun q => (b1 ≤ q ∧ q < b1 + 222) ∨ b1 + 232 < q
def Am (b1 : Nat) : Nat → Prop := fun q => b1 + 222 ≤ q ∧ q < b1 + 232
/-- the law's world: the class's cells, the reference's, the row 'out' -/
def Lw (D : zD) (dJ : ClassId) (b1 : Nat) (s : State) (G : zG) (q : zq) (u r : zU) (x : Int64) (H : Heap) (locs : List Loc) : Prop := z_W D (Ax b1) b1 (zg G q) u H ∧ zTop G q ∧ z_W D (Am b1) (b1 + 222) gM r H ∧ oC dJ (b1 + 232) H x ∧ va_S (A0 s) s.heap H locs ∧ b1 + 233 ≤ H.size
/-- what holds all along -/
def LX (l : Launch) (p : Program) (s : State) (m : MethodId) (c : Code) (b L : Nat) (xs : Nat → Int32) (D : zD) (dJ : ClassId) (b1 : Nat) : Prop := z_C p c cL_law_ s m #[Value.ref b] RL D (A0 s) ∧ z_K2 s ∧ ArrOfT s dJ .long ∧ c.maxLocals = 7 ∧ va_X b L xs s s.heap ∧ b < s.heap.size ∧ l.stackTraces = false ∧ b1 = s.heap.size
theorem z_W.oth2 {D : zD} {A1 : Nat → Prop} {b : Nat} {g : zG} {u : zU} {H H1 : Heap} (h : z_W D A1 b g u H) (hq : ∀ q : Nat, A1 q → q < H.size → H1[q]? = H[q]?) : z_W D A1 b g u H1 := by
  intro r
  refine ⟨?_, (h r).2⟩
  by_cases h0 : (g r).1 = 0
  · unfold z_at; rw [h0]; exact trivial
  · exact (h r).1.kept (hq _ ((h r).2 h0) ((h r).1.lt h0))
theorem oC.kept {dJ : ClassId} {ob : Nat} {H H1 : Heap} {x : Int64} (h : oC dJ ob H x) (hq : ob < H.size → H1[ob]? = H[ob]?) : oC dJ ob H1 x := by
  obtain ⟨f, h1, h2⟩ := h
  exact ⟨f, by rw [hq (Array.getElem?_eq_some_iff.mp h1).1]; exact h1, h2⟩
section LAW
variable {l : Launch} {p : Program} {e : Env} {s : State} {m : MethodId} {below : List Frame} {meth : Method} {c : Code} {b L : Nat} {xs : Nat → Int32} {D : zD} {dJ : ClassId} {b1 : Nat} {H : Heap} {locs : List Loc} {cells slots : Nat} {Q : State → Prop}
variable {G : zG} {q q' : zq} {u u' r r' : zU} {x : Int64} {pc : Nat} {ls : Array Slot} {rest st : List Value} {y : MethodName} {cy : ByteArray} {mL fr lo n index : Nat} {ret : Option FieldType} {As : List Value} {v : Option Value}
theorem LX.k (X : LX l p s m c b L xs D dJ b1) (hS : va_S (A0 s) s.heap H locs) {A1 : Nat → Prop} (hA : ∀ q, A1 q → A0 s q) {U : State} (hU : U.heap = H) (hW : s.WarmedH U.vm) : z_K D A1 U := (X.1.2.2.2.2.at hW hU hS).narrow hA
theorem LX.ax (X : LX l p s m c b L xs D dJ b1) : ∀ q, Ax b1 q → A0 s q := fun q h => by
  have e := X.2.2.2.2.2.2.2
  unfold Ax at h
  show s.heap.size ≤ q
  omega
theorem LX.am (X : LX l p s m c b L xs D dJ b1) : ∀ q, Am b1 q → A0 s q := fun q h => by
  have e := X.2.2.2.2.2.2.2
  unfold Am at h
  show s.heap.size ≤ q
  omega
/-- behind a call of the class's -/
theorem Lw.cx (h : Lw D dJ b1 s G q u r x H locs) {G' : zG} {q' : zq} {u' : zU} {H1 : Heap} {locs1 : List Loc} (h1 : z_W D (Ax b1) b1 (zg G' q') u' H1) (h2 : zTop G' q') (hz : H.size ≤ H1.size) (hk : ∀ a : Nat, a < H.size → ¬ Ax b1 a → H1[a]? = H[a]?) (hS : va_S (A0 s) s.heap H1 locs1) : Lw D dJ b1 s G' q' u' r x H1 locs1 := by
  obtain ⟨a1, a2, a3, a4, a5, a6⟩ := h
  refine ⟨h1, h2, a3.oth2 (fun a ha hlt => hk a hlt (by unfold Ax; unfold Am at ha; omega)), a4.kept (fun hlt => hk _ hlt (by unfold Ax; omega)), hS, by omega⟩
/-- behind a call of the reference's -/
theorem Lw.cm (h : Lw D dJ b1 s G q u r x H locs) {r' : zU} {H1 : Heap} {locs1 : List Loc} (h1 : z_W D (Am b1) (b1 + 222) gM r' H1) (hz : H.size ≤ H1.size) (hk : ∀ a : Nat, a < H.size → ¬ Am b1 a → H1[a]? = H[a]?) (hS : va_S (A0 s) s.heap H1 locs1) : Lw D dJ b1 s G q u r' x H1 locs1 := by
  obtain ⟨a1, a2, a3, a4, a5, a6⟩ := h
  refine ⟨a1.oth2 (fun a ha hlt => hk a hlt (by unfold Am; unfold Ax at ha; omega)), a2, h1, a4.kept (fun hlt => hk _ hlt (by unfold Am; omega)), hS, by omega⟩
theorem l_cx (X : LX l p s m c b L xs D dJ b1) (h : Lw D dJ b1 s G q u r x H locs) (hls : ls.size = 7) (hM : z_M l D (Ax b1) b1 (zg G q) y cy mL ret fr lo (.ref (b1 + 0) :: As) u v u') (Y : z_YV RL index y cy mL ret 9 n) (hR : fr + 1 ≤ 2048 ∧ 8 + (mL + 11) + lo ≤ 84000) (hf : cells + 8 ≤ 823376 ∧ slots + 1644 ≤ 6625975) (hst : st = As.reverse ++ .ref (b1 + 0) :: rest) (hn : As.length = n) (hw : (rest.map fun v => v.category).sum ≤ 8) (hdg : decode cL_law_ pc = .ok (.invokevirtual index, 3))
    (kk : ∀ (H1 : Heap) (locs1 : List Loc), Lw D dJ b1 s G q u' r x H1 locs1 → W p l e room_1 s m #[Value.ref b] below meth c H1 locs1 cells slots Q (F0 m (pc + 3) ls (v.toList ++ rest))) : W p l e room_1 s m #[Value.ref b] below meth c H locs cells slots Q (F0 m pc ls st) :=
  zL_cv (R := room_1) X.1 X.2.2.2.1 hls h.1 h.2.2.2.2.1 hM z_blind (fun U hU hW2 => ⟨rfl, X.k h.2.2.2.2.1 X.ax hU hW2, by rw [hU]; exact h.1⟩) Y (zk1 (h.2.1.1 0 (by decide))) hR ⟨by show cells + 0 ≤ 823376; omega, by show slots + 0 ≤ 6625975; omega⟩ hst hn hw hdg X.ax (Ψ := fun H => z_W D (Ax b1) b1 (zg G q) u' H)
    (fun st0 o t h => h) (fun H1 locs1 h1 h2 h3 h4 => kk H1 locs1 (h.cx h1 h.2.1 h2 h3 h4))
theorem l_cxT (X : LX l p s m c b L xs D dJ b1) (h : Lw D dJ b1 s G q u r x H locs) (hls : ls.size = 7) (hM : z_MT l D (Ax b1) b1 G y cy mL ret fr lo (.ref (b1 + 0) :: As) q u v q' u') (Y : z_YV RL index y cy mL ret 9 n) (hR : fr + 1 ≤ 2048 ∧ 8 + (mL + 11) + lo ≤ 84000) (hf : cells + 8 ≤ 823376 ∧ slots + 1644 ≤ 6625975) (hst : st = As.reverse ++ .ref (b1 + 0) :: rest) (hn : As.length = n) (hw : (rest.map fun v => v.category).sum ≤ 8) (hdg : decode cL_law_ pc = .ok (.invokevirtual index, 3))
    (kk : ∀ (H1 : Heap) (locs1 : List Loc), Lw D dJ b1 s G q' u' r x H1 locs1 → W p l e room_1 s m #[Value.ref b] below meth c H1 locs1 cells slots Q (F0 m (pc + 3) ls (v.toList ++ rest))) : W p l e room_1 s m #[Value.ref b] below meth c H locs cells slots Q (F0 m pc ls st) :=
  zL_cv (R := room_1) X.1 X.2.2.2.1 hls h.1 h.2.2.2.2.1 hM z_blind (fun U hU hW2 => ⟨rfl, X.k h.2.2.2.2.1 X.ax hU hW2, by rw [hU]; exact h.1⟩) Y (zk1 (h.2.1.1 0 (by decide))) hR ⟨by show cells + 0 ≤ 823376; omega, by show slots + 0 ≤ 6625975; omega⟩ hst hn hw hdg X.ax (Ψ := fun H => z_W D (Ax b1) b1 (zg G q') u' H ∧ zTop G q')
    (fun st0 o t h => ⟨h.1, ⟨h.2.1, h.2.2.2⟩, h.2.2.1⟩) (fun H1 locs1 h1 h2 h3 h4 => kk H1 locs1 (h.cx h1.1 h1.2 h2 h3 h4))
theorem l_cm (X : LX l p s m c b L xs D dJ b1) (h : Lw D dJ b1 s G q u r x H locs) (hls : ls.size = 7) (hM : z_M l D (Am b1) (b1 + 222) gM y cy mL ret fr lo (.ref (b1 + 222 + 0) :: As) r v r') (Y : z_YV RL index y cy mL ret 10 n) (hR : fr + 1 ≤ 2048 ∧ 8 + (mL + 11) + lo ≤ 84000) (hf : cells ≤ 823376 ∧ slots ≤ 6625975) (hst : st = As.reverse ++ .ref (b1 + 222 + 0) :: rest) (hn : As.length = n) (hw : (rest.map fun v => v.category).sum ≤ 8) (hdg : decode cL_law_ pc = .ok (.invokevirtual index, 3))
    (kk : ∀ (H1 : Heap) (locs1 : List Loc), Lw D dJ b1 s G q u r' x H1 locs1 → W p l e room_1 s m #[Value.ref b] below meth c H1 locs1 cells slots Q (F0 m (pc + 3) ls (v.toList ++ rest))) : W p l e room_1 s m #[Value.ref b] below meth c H locs cells slots Q (F0 m pc ls st) :=
  zL_cv (R := room_1) X.1 X.2.2.2.1 hls h.2.2.1 h.2.2.2.2.1 hM z_blind (fun U hU hW2 => ⟨rfl, X.k h.2.2.2.2.1 X.am hU hW2, by rw [hU]; exact h.2.2.1⟩) Y rfl hR ⟨by show cells + 0 ≤ 823376; omega, by show slots + 0 ≤ 6625975; omega⟩ hst hn hw hdg X.am (Ψ := fun H => z_W D (Am b1) (b1 + 222) gM r' H)
    (fun st0 o t h => h) (fun H1 locs1 h1 h2 h3 h4 => kk H1 locs1 (h.cm h1 h2 h3 h4))
theorem l_cs {hh : List (Nat × Nat × Nat × Nat)} {k : Int32} {ow : Option Int32} {Φ : zG → zq → zU → Prop} (X : LX l p s m c b L xs D dJ b1) (h : Lw D dJ b1 s G q u r x H locs) (hls : ls.size = 7) (hM : wM l D (Ax b1) b1 (b1 + 232) dJ y cy mL hh As G q u k ow Φ)
    (Y : GoodIn wsA (va_wsS RL index y (.codeWith y cy mL (some .int) hh :: wsA)) ∧ (y.cls ≠ "java/lang/invoke/MethodHandle" ∧ y.cls ≠ "java/lang/invoke/VarHandle" ∧ (parseMethodDescriptor y.desc).map (fun d => d.parameters.length) = some n)) (hmL : mL ≤ 20) (hf : cells + 8 ≤ 823376 ∧ slots + 1644 ≤ 6625975) (hst : st = As.reverse ++ rest) (hn : As.length = n) (hw : (rest.map fun v => v.category).sum ≤ 8) (hdg : decode cL_law_ pc = .ok (.invokestatic index, 3))
    (kk : ∀ (G' : zG) (q' : zq) (u' : zU) (x' : Int64) (H1 : Heap) (locs1 : List Loc), Φ G' q' u' → (∀ w, ow = some w → x' = w.toInt64) → Lw D dJ b1 s G' q' u' r x' H1 locs1 → W p l e room_1 s m #[Value.ref b] below meth c H1 locs1 (cells + 8) (slots + 1644) Q (F0 m (pc + 3) ls (.int k :: rest))) : W p l e room_1 s m #[Value.ref b] below meth c H locs cells slots Q (F0 m pc ls st) := by
  have hA : ∀ q, AL (Ax b1) (b1 + 232) q → A0 s q := fun q hq => by
    rcases hq with hq | hq
    · exact X.ax q hq
    · have e := X.2.2.2.2.2.2.2
      show s.heap.size ≤ q
      omega
  refine zL_cs (R := room_1) (v := some (.int k)) X.1 X.2.2.2.1 hls h.2.2.2.2.1 hM w_blind (fun U hU hW2 => ⟨rfl, X.k h.2.2.2.2.1 hA hU hW2, X.2.1.at hW2, by rw [hU]; exact h.1, arrOfT_moved hW2.alike X.2.2.1, ⟨x, by rw [hU]; exact h.2.2.2.1⟩, (by unfold Ax; omega), fun q hq => ?_⟩) Y ⟨by show 45 + 1 ≤ 2048; omega, by show 8 + (mL + 11) + 1500 ≤ 84000; omega⟩ hf hst hn hw hdg hA (Ψ := fun H => (∃ G' q' u', z_W D (Ax b1) b1 (zg G' q') u' H ∧ zTop G' q' ∧ Φ G' q' u') ∧ ∃ x, oC dJ (b1 + 232) H x ∧ ∀ w, ow = some w → x = w.toInt64)
    (fun st0 o t h => h) (fun H1 locs1 h1 h2 h3 h4 => ?_)
  · rw [hU] at hq
    have := h.2.2.2.2.2
    unfold Ax
    omega
  · obtain ⟨⟨G', q', u', w1, w2, w3⟩, x', w4, w5⟩ := h1
    obtain ⟨a1, a2, a3, a4, a5, a6⟩ := h
    exact kk G' q' u' x' H1 locs1 w3 w5 ⟨w1, w2, a3.oth2 (fun a ha hlt => h3 a hlt (by unfold AL Ax; unfold Am at ha; omega)), w4, h4, by omega⟩
/-- an int of the script -/
theorem l_arg (X : LX l p s m c b L xs D dJ b1) (hS : va_S (A0 s) s.heap H locs) {i kv : Int32} (i0 : ls[0]? = some (.val (.ref b))) (i4 : ls[4]? = some (.val (.int i))) (hin : vp_in (i + kv) L) {k : Int} (hk : Int32.ofInt k = kv) (d0 : decode cL_law_ pc = .ok (.aload_n 0, 1)) (d1 : decode cL_law_ (pc + 1) = .ok (.iload 4, 2)) (d3 : decode cL_law_ (pc + 1 + 2) = .ok (.iconst k, 1)) (d4 : decode cL_law_ (pc + 1 + 2 + 1) = .ok (.iadd, 1)) (d5 : decode cL_law_ (pc + 1 + 2 + 1 + 1) = .ok (.iaload, 1))
    (kk : W p l e room_1 s m #[Value.ref b] below meth c H locs cells slots Q (F0 m (pc + 1 + 2 + 1 + 1 + 1) ls (.int (xs (i + kv).toNatClampNeg) :: rest))) : W p l e room_1 s m #[Value.ref b] below meth c H locs cells slots Q (F0 m pc ls rest) := by
  have hx := X.1.1
  have hb := X.1.2.1
  refine lv_aload_n hx hb d0 rfl i0 ?_
  refine lv_iload hx hb d1 i4 ?_
  refine lv_iconst (v := kv) hx hb d3 hk ?_
  refine lv_iadd hx hb d4 ?_
  exact va_sld hx hb X.2.2.2.2.1 X.2.2.2.2.2.1 (by show ¬ s.heap.size ≤ b; have := X.2.2.2.2.2.1; omega) hS hin d5 kk
/-- '!= 0' of it -/
theorem l_argZ (X : LX l p s m c b L xs D dJ b1) {a : Int32} {o1 o2 : Int} {t1 t2 : Nat} (d0 : decode cL_law_ pc = .ok (.ifCond .eq o1, 3)) (h1 : (pc : Int) + o1 = (t1 : Int)) (d1 : decode cL_law_ (pc + 3) = .ok (.iconst 1, 1)) (d2 : decode cL_law_ (pc + 3 + 1) = .ok (.goto o2, 3)) (h2 : ((pc + 3 + 1 : Nat) : Int) + o2 = (t2 : Int)) (d3 : decode cL_law_ t1 = .ok (.iconst 0, 1)) (h3 : t1 + 1 = t2)
    (kk : W p l e room_1 s m #[Value.ref b] below meth c H locs cells slots Q (F0 m t2 ls (.int (bI (decide (a ≠ 0))) :: rest))) : W p l e room_1 s m #[Value.ref b] below meth c H locs cells slots Q (F0 m pc ls (.int a :: rest)) := by
  have hx := X.1.1
  have hb := X.1.2.1
  refine lv_if_eq hx hb d0 h1 (fun h => ?_) (fun h => ?_)
  · refine lv_iconst (v := (0 : Int32)) hx hb d3 (by decide) ?_
    rw [h3]
    rw [decide_eq_false (fun e => e h)] at kk
    exact kk
  · refine lv_iconst (v := (1 : Int32)) hx hb d1 (by decide) ?_
    refine lv_goto hx hb d2 h2 ?_
    rw [decide_eq_true h] at kk
    exact kk
end LAW
