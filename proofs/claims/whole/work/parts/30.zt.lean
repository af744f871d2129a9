/-! THE WHOLE OBJECT: fifteen wheels (0 the wheel, 1 the spare, 2 + k the one of the keep k), each with its law q i; a contract that may change which law a wheel has; a contract of a throw -/
def wr (i : Nat) : Nat := if i = 0 then 6 else if i = 1 then 17 else 41 + 14 * (i - 2)
def wi (r : Nat) : Option Nat := if r = 6 then some 0 else if r = 17 then some 1 else if 41 ≤ r ∧ r < 223 ∧ (r - 41) % 14 = 0 then some (2 + (r - 41) / 14) else none
theorem wi_wr {i : Nat} (h : i < 15) : wi (wr i) = some i := by
  unfold wi wr
  by_cases h0 : i = 0
  · subst h0; rfl
  · by_cases h1 : i = 1
    · subst h1; rfl
    · rw [if_neg h0, if_neg h1, if_neg (by omega), if_neg (by omega), if_pos (by omega)]
      congr 1
      omega
theorem wr_wi {r i : Nat} (h : wi r = some i) : r = wr i ∧ i < 15 := by
  unfold wi at h
  by_cases h0 : r = 6
  · rw [if_pos h0] at h; cases h; exact ⟨h0, by omega⟩
  · rw [if_neg h0] at h
    by_cases h1 : r = 17
    · rw [if_pos h1] at h; cases h; exact ⟨h1, by omega⟩
    · rw [if_neg h1] at h
      by_cases h2 : 41 ≤ r ∧ r < 223 ∧ (r - 41) % 14 = 0
      · rw [if_pos h2] at h; cases h
        unfold wr
        rw [if_neg (by omega), if_neg (by omega)]
        omega
      · rw [if_neg h2] at h; cases h
abbrev zq : Type := Nat → Nat → Nat
def zup (q : zq) (i : Nat) (L : Nat → Nat) : zq := fun i' => if i' = i then L else q i'
def zg (G : zG) (q : zq) : zG := fun r => match wi r with
  | some i => ((G r).1, (G r).2.1, fun j => if j = 19 then some (q i 0) else (G r).2.2 j)
  | none => G r
def zgs (g : zG) (r k o : Nat) : zG := fun r' => if r' = r then ((g r).1, (g r).2.1, fun j => if j = k then some o else (g r).2.2 j) else g r'
theorem zg_1 (G : zG) (q : zq) (r : Nat) : (zg G q r).1 = (G r).1 := by unfold zg; cases wi r <;> rfl
theorem zg_2 (G : zG) (q : zq) (r : Nat) : (zg G q r).2.1 = (G r).2.1 := by unfold zg; cases wi r <;> rfl
theorem zg_3 (G : zG) (q : zq) (r : Nat) {j : Nat} (h : j ≠ 19) : (zg G q r).2.2 j = (G r).2.2 j := by
  unfold zg
  cases wi r with
  | none => rfl
  | some i => exact if_neg h
theorem zg_r (G : zG) (q : zq) {i : Nat} (h : i < 15) : (zg G q (wr i)).2.2 19 = some (q i 0) := by
  unfold zg
  rw [wi_wr h]
  rfl
theorem zg_n (G : zG) (q : zq) {r : Nat} (h : wi r = none) : zg G q r = G r := by unfold zg; rw [h]
theorem zgs_zg (G : zG) (q : zq) {i : Nat} (h : i < 15) (L : Nat → Nat) : zgs (zg G q) (wr i) 19 (L 0) = zg G (zup q i L) := by
  funext r
  unfold zgs
  by_cases e : r = wr i
  · subst e
    rw [if_pos rfl]
    unfold zg
    rw [wi_wr h]
    refine Prod.ext rfl (Prod.ext rfl ?_)
    funext j
    by_cases e2 : j = 19
    · simp [e2, zup]
    · simp [e2]
  · rw [if_neg e]
    unfold zg
    cases hw : wi r with
    | none => rfl
    | some i2 =>
      have h2 := (wr_wi hw).1
      have hne : i2 ≠ i := fun e3 => e (by rw [h2, e3])
      show _ = ((G r).1, (G r).2.1, fun j => if j = 19 then some (zup q i L i2 0) else (G r).2.2 j)
      unfold zup
      rw [if_neg hne]
theorem zLw_q {G : zG} {q q' : zq} {L : Nat → Nat} (h : zLw (zg G q) L) : zLw (zg G q') L := by
  refine ⟨by rw [zg_1, ← zg_1 G q]; exact h.1, fun j h1 h2 => ?_⟩
  obtain ⟨a1, a2, a3⟩ := h.2 j h1 h2
  exact ⟨by rw [zg_3 _ _ _ (by omega), ← zg_3 G q _ (by omega)]; exact a1, by rw [zg_1, ← zg_1 G q]; exact a2, by rw [zg_2, ← zg_2 G q]; exact a3⟩
theorem zJn_q {G : zG} {q q' : zq} {j : Nat} (h : zJn (zg G q) j) : zJn (zg G q') j :=
  ⟨by rw [zg_1, ← zg_1 G q]; exact h.1, by rw [zg_3 _ _ _ (by decide), ← zg_3 G q _ (by decide)]; exact h.2.1, by rw [zg_1, ← zg_1 G q]; exact h.2.2.1, by rw [zg_2, ← zg_2 G q]; exact h.2.2.2⟩
/-- a keep k: its object, its wheel, its journal -/
def zKp (g : zG) (k : Nat) : Prop := (g (40 + 14 * k)).1 = 7 ∧ (g (40 + 14 * k)).2.2 0 = some (wr (2 + k)) ∧ (g (40 + 14 * k)).2.2 1 = some (52 + 14 * k) ∧ zJn g (52 + 14 * k)
def zTop (G : zG) (q : zq) : Prop := zSt (zg G q) ∧ (∀ i, i < 15 → zWh (zg G q) (wr i) (q i)) ∧ zJn (zg G q) 36 ∧ ∀ k, k < 13 → zKp (zg G q) k
theorem wi_st : ∀ r ∈ zStL, wi r = none := by decide
theorem zTop_q {G : zG} {q q' : zq} (h : zTop G q) (hq : ∀ i, i < 15 → ∃ j, j < 15 ∧ q' i = q j) : zTop G q' := by
  obtain ⟨h1, h2, h3, h4⟩ := h
  refine ⟨fun r hr => ?_, fun i hi => ?_, zJn_q h3, fun k hk => ?_⟩
  · rw [zg_n _ _ (wi_st r hr), ← zg_n G q (wi_st r hr)]; exact h1 r hr
  · obtain ⟨j, hj, e⟩ := hq i hi
    obtain ⟨a1, a2, a3, a4⟩ := h2 i hi
    refine ⟨by rw [zg_1, ← zg_1 G q]; exact a1, fun k hk => ?_, zg_r G q' hi, ?_⟩
    · obtain ⟨b1, b2, b3⟩ := a2 k hk
      exact ⟨by rw [zg_3 _ _ _ (by omega), ← zg_3 G q _ (by omega)]; exact b1, by rw [zg_1, ← zg_1 G q]; exact b2, by rw [zg_2, ← zg_2 G q]; exact b3⟩
    · rw [e]
      exact zLw_q (h2 j hj).2.2.2
  · obtain ⟨a1, a2, a3, a4⟩ := h4 k hk
    exact ⟨by rw [zg_1, ← zg_1 G q]; exact a1, by rw [zg_3 _ _ _ (by decide), ← zg_3 G q _ (by decide)]; exact a2, by rw [zg_3 _ _ _ (by decide), ← zg_3 G q _ (by decide)]; exact a3, zJn_q a4⟩
theorem zTop_up {G : zG} {q : zq} (h : zTop G q) {i j : Nat} (hj : j < 15) : zTop G (zup q i (q j)) := zTop_q h (fun k hk => by
  unfold zup
  by_cases e : k = i
  · exact ⟨j, hj, if_pos e⟩
  · exact ⟨k, hk, if_neg e⟩)
/-- the contract of a method behind which the shape is another -/
def z_M2 (l : Launch) (D : zD) (A : Nat → Prop) (b : Nat) (g : zG) (y : MethodName) (cc : ByteArray) (maxL : Nat) (ret : Option FieldType) (fr lo : Nat) (as : List Value) (u : zU) (v : Option Value) (g' : zG) (u' : zU) : Prop :=
  Met l y (.code y cc maxL ret :: wsA) { frames := fr, cells := 0, slots := 0, locals := lo } (z_Pc D A b g as u) (z_Q D A b g' v u') 0 0 A
theorem z_enter2 {l : Launch} {D : zD} {A : Nat → Prop} {b : Nat} {g g' : zG} {y : MethodName} {cc : ByteArray} {maxL : Nat} {ret : Option FieldType} {fr lo : Nat} {as : List Value} {u : zU} {v : Option Value} {u' : zU} (hy : plainName y.cls = true) (hn : (lg_sl as).length ≤ maxL)
    (body : ∀ (p : Program) (e : Env) (s : State) (m : MethodId) (below : List Frame) (meth : Method) (c : Code) (ls : Array Slot), z_C p c cc s m as.toArray y.cls D A → meth.sig.returnType = ret → c.maxLocals = maxL → meth.locks = false → z_W D A b g u s.heap → va_S A s.heap s.heap [] → lv_has ls maxL (lv_args 0 as) →
      W p l e { frames := fr, cells := 0, slots := 0, locals := lo } s m as.toArray below meth c s.heap [] 0 0 (z_End D A b g' below as.toArray s v u') (F0 m 0 ls [])) : z_M2 l D A b g y cc maxL ret fr lo as u v g' u' := by
  unfold z_M2
  refine Met.ofW (cc := cc) (maxL := maxL) (ret := ret) hy rfl ?_
  intro p e s m vals below meth c s₁ B hml hv
  obtain ⟨rfl, hK, hW⟩ := hv
  have hts : ∀ w ∈ Cond.code y cc maxL ret :: wsA, w.before as.toArray s = true := atoms_spec (ws := Cond.code y cc maxL ret :: wsA) B.pre
  have hown : s.vm.findClass y.cls = some m.cls := findClass_of_methodNamed B.named
  have hl := lv_entry as (n := maxL) hn
  rw [lg_entry_eq]
  exact body p e s m below meth c _ ⟨B.exec, B.bytes, fun w h => hts w (List.mem_cons_of_mem _ h), hown, hK⟩ B.returns hml B.notSynchronized hW va_S.rf hl
section ZT2
variable {p : Program} {l : Launch} {e : Env} {R : Room} {s : State} {m : MethodId} {args : Array Value} {below : List Frame} {meth : Method} {c : Code} {H : Heap} {locs : List Loc} {Q : State → Prop}
variable {cc : ByteArray} {pc : Nat} {ls : Array Slot} {rest : List Value} {D : zD} {A : Nat → Prop} {b : Nat} {g g' : zG} {u u' : zU} {own : String} {st : List Value}
variable {y : MethodName} {cy : ByteArray} {maxL nL n index fr lo ci r0 : Nat} {ret : Option FieldType} {As : List Value} {v : Option Value} {x : Int32}
theorem z_cv2 (C0 : z_C p c cc s m args own D A) (hml : c.maxLocals = nL) (hl : ls.size = nL) (hW : z_W D A b g u H) (hS : va_S A s.heap H locs) (hM : z_M2 l D A b g y cy maxL ret fr lo (.ref (b + r0) :: As) u v g' u') (Y : z_YV own index y cy maxL ret ci n) (hg : (g r0).1 = ci + 4)
    (hR : fr + 1 ≤ R.frames ∧ 8 + (maxL + 11) + lo ≤ R.locals) (hst : st = As.reverse ++ .ref (b + r0) :: rest) (hn : As.length = n) (hw : (rest.map fun v => v.category).sum ≤ 8) (hdg : decode cc pc = .ok (.invokevirtual index, 3))
    (kk : ∀ (H1 : Heap) (locs1 : List Loc), z_W D A b g' u' H1 → va_S A s.heap H1 locs1 → W p l e R s m args below meth c H1 locs1 0 0 Q (F0 m (pc + 3) ls (v.toList ++ rest))) : W p l e R s m args below meth c H locs 0 0 Q (F0 m pc ls st) := by
  obtain ⟨hx, hb, hts, hown, hK⟩ := C0
  obtain ⟨hG, hd, T, N, hc⟩ := Y
  obtain ⟨cell, q1, q2, q3, -⟩ := z_ob hW hg
  obtain ⟨-, hfc, -⟩ := hK.1.1 ci _ hc
  exact z_back (va_runV (C := y.cls) (bytes := cy) (maxL := maxL) (ret := ret) (n := n) ⟨hx, hb, hml, hown, hts⟩ hM (cwV n hts hG rfl rfl rfl ⟨rfl, hd⟩ hR) ⟨z_blind, ⟨cell, q1, by rw [q3]; rfl, by rw [q2]; exact hfc⟩, fun U hU hW2 => ⟨rfl, hK.at hW2 hU hS, by rw [hU]; exact hW⟩⟩ rfl hn hl hst (lv_room hw) hdg ⟨Nat.zero_le _, Nat.zero_le _⟩) hS kk
theorem z_cv2i (C0 : z_C p c cc s m args own D A) (hml : c.maxLocals = nL) (hl : ls.size = nL) (hW : z_W D A b g u H) (hS : va_S A s.heap H locs) (hM : z_M2 l D A b g y cy maxL ret fr lo (.ref (b + r0) :: As) u (some (.int x)) g' u') (Y : z_YV own index y cy maxL ret ci n) (hg : (g r0).1 = ci + 4)
    (hR : fr + 1 ≤ R.frames ∧ 8 + (maxL + 11) + lo ≤ R.locals) (hst : st = As.reverse ++ .ref (b + r0) :: rest) (hn : As.length = n) (hw : (rest.map fun v => v.category).sum ≤ 8) (hdg : decode cc pc = .ok (.invokevirtual index, 3))
    (kk : ∀ (H1 : Heap) (locs1 : List Loc), z_W D A b g' u' H1 → va_S A s.heap H1 locs1 → W p l e R s m args below meth c H1 locs1 0 0 Q (F0 m (pc + 3) ls (.int x :: rest))) : W p l e R s m args below meth c H locs 0 0 Q (F0 m pc ls st) := z_cv2 C0 hml hl hW hS hM Y hg hR hst hn hw hdg kk
theorem z_cv2v (C0 : z_C p c cc s m args own D A) (hml : c.maxLocals = nL) (hl : ls.size = nL) (hW : z_W D A b g u H) (hS : va_S A s.heap H locs) (hM : z_M2 l D A b g y cy maxL ret fr lo (.ref (b + r0) :: As) u none g' u') (Y : z_YV own index y cy maxL ret ci n) (hg : (g r0).1 = ci + 4)
    (hR : fr + 1 ≤ R.frames ∧ 8 + (maxL + 11) + lo ≤ R.locals) (hst : st = As.reverse ++ .ref (b + r0) :: rest) (hn : As.length = n) (hw : (rest.map fun v => v.category).sum ≤ 8) (hdg : decode cc pc = .ok (.invokevirtual index, 3))
    (kk : ∀ (H1 : Heap) (locs1 : List Loc), z_W D A b g' u' H1 → va_S A s.heap H1 locs1 → W p l e R s m args below meth c H1 locs1 0 0 Q (F0 m (pc + 3) ls rest)) : W p l e R s m args below meth c H locs 0 0 Q (F0 m pc ls st) := z_cv2 C0 hml hl hW hS hM Y hg hR hst hn hw hdg kk
theorem z_putr (C0 : z_C p c cc s m args own D A) (hW : z_W D A b g u H) (hS0 : va_S A s.heap H locs) {index ci k r o : Nat} {ty : FieldType} {cells slots : Nat} (F : z_FL own index ci k ty false) (hg : (g r).1 = ci + 4) (hf : zRf ci k = true) (hn : narrow ty (.ref (b + o)) = .ref (b + o)) (hfit : fits ty (.ref (b + o)) = true) (hdg : decode cc pc = .ok (.putfield index, 3))
    (kk : ∀ (H1 : Heap) (locs1 : List Loc), z_W D A b (zgs g r k o) u H1 → va_S A s.heap H1 locs1 → W p l e R s m args below meth c H1 locs1 cells slots Q (F0 m (pc + 3) ls rest)) : W p l e R s m args below meth c H locs cells slots Q (F0 m pc ls (.ref (b + o) :: .ref (b + r) :: rest)) := by
  obtain ⟨hx, hb, hts, hown, hK⟩ := C0
  obtain ⟨C, T, N, ref, ty0, hc, hin, hk, hlink, hsame, hty, hnm, hty2, hfin⟩ := F
  have hap := va_apart (own := own) hts hin ty0 hty hnm hK.1 hc
  obtain ⟨cell, q1, q2, q3, q4⟩ := z_ob hW hg
  rw [z_NF hc] at q4
  obtain ⟨hS, hfc, kC, hkC, hkind⟩ := hK.1.1 ci _ hc
  obtain ⟨cf, kf, fi, f, hi, hsl⟩ := hS k hk
  have hi2 : s.fieldFound? ref (T k).2.1 (T k).2.2.1 = some (cf, kf, fi, f) := by
    rcases hsame with h | h
    · rw [h]; exact hi
    · exact u_same (hts _ h) _ hi
  have hlay := hts _ (hin _ (u_in_lay hk))
  unfold u_lay at hlay
  rw [if_neg (by rw [hfin]; decide)] at hlay
  have hst := (u_facts hfc hkC (u_lays hts hin hk) hi).1
  have h6 := u_store hfc hkC hkind hlay hi ((hty k hk).trans (congrArg some hty2)) hn hfit
  refine W.putK hx hb (f := f) ⟨hown, hts _ hlink, ⟨_, _, _, hi2⟩, hst⟩ (by rw [q2]; exact h6) q1 q3 (by rw [hsl]; exact k2_hasslot (q4 k hk)) rfl rfl hdg fun H' e1 e2 e3 => ?_
  rw [hsl] at e1 ⊢
  refine kk H' _ (fun r' => ?_) (hS0.put e2 e3 (z_in4 hW (k := ci + 3) hg))
  unfold zgs
  by_cases er : r' = r
  · subst er
    rw [if_pos rfl]
    refine ⟨?_, (hW r').2⟩
    unfold z_at
    show (match (g r').1 with | 0 => True | 1 => _ | 2 => _ | 3 => _ | k + 4 => _)
    rw [hg]
    show t_OB _ _ _ _ _ _
    rw [z_NF hc]
    refine t_OB.to (V := updV (z_V b ci (g r').2.2 (u r')) k (.ref (b + o))) ⟨_, e1, q2, q3, t_set q4 hap hk (.ref (b + o))⟩ (fun j _ => ?_)
    unfold updV z_V
    by_cases ej : j = k
    · subst ej
      rw [if_pos rfl, hf, if_pos rfl]
      show _ = va_rf (Option.map _ (if j = j then some o else _))
      rw [if_pos rfl]
      rfl
    · rw [if_neg ej]
      by_cases hz : zRf ci j = true
      · rw [if_pos hz, if_pos hz]
        show _ = va_rf (Option.map _ (if j = k then _ else _))
        rw [if_neg ej]
      · rw [if_neg hz, if_neg hz]
  · rw [if_neg er]
    exact ⟨(hW r').1.kept (e3 _ (fun h => er (Nat.add_left_cancel h))), (hW r').2⟩
end ZT2
theorem zT0 {G : zG} {q : zq} (h : zTop G q) : zWh (zg G q) 6 (q 0) := h.2.1 0 (by decide)
theorem zT1 {G : zG} {q : zq} (h : zTop G q) : zWh (zg G q) 17 (q 1) := h.2.1 1 (by decide)
theorem zTk {G : zG} {q : zq} (h : zTop G q) {k : Nat} (hk : k < 13) : zWh (zg G q) (wr (2 + k)) (q (2 + k)) := h.2.1 (2 + k) (by omega)
/-- a contract of the whole object's methods: they may change which laws the wheels have -/
def z_QT (D : zD) (A : Nat → Prop) (b : Nat) (G : zG) (v : Option Value) (q' : zq) (u' : zU) : Array Value → State → Outcome → State → Prop := fun _ st o t => o = .returned v ∧ z_W D A b (zg G q') u' t.heap ∧ va_F A st t ∧ zTop G q'
def z_MT (l : Launch) (D : zD) (A : Nat → Prop) (b : Nat) (G : zG) (y : MethodName) (cc : ByteArray) (maxL : Nat) (ret : Option FieldType) (fr lo : Nat) (as : List Value) (q : zq) (u : zU) (v : Option Value) (q' : zq) (u' : zU) : Prop :=
  Met l y (.code y cc maxL ret :: wsA) { frames := fr, cells := 0, slots := 0, locals := lo } (z_Pc D A b (zg G q) as u) (z_QT D A b G v q' u') 0 0 A
abbrev z_EndT (D : zD) (A : Nat → Prop) (b : Nat) (G : zG) (below : List Frame) (args : Array Value) (s : State) (v : Option Value) (q' : zq) (u' : zU) : State → Prop := MQ below (z_QT D A b G v q' u') args s 0 0 A
/-- a contract of a throw: an exception of the class E leaves the method -/
def z_XC (D : zD) (A : Nat → Prop) (b : Nat) (G : zG) (E : String) (q' : zq) (u' : zU) : String → State → State → Prop := fun E' st t => E' = E ∧ z_W D A b (zg G q') u' t.heap ∧ va_F A st t ∧ zTop G q'
def z_No : Array Value → State → Outcome → State → Prop := fun _ _ _ _ => False
def z_TX (l : Launch) (D : zD) (A : Nat → Prop) (b : Nat) (G : zG) (y : MethodName) (cc : ByteArray) (maxL : Nat) (ret : Option FieldType) (fr lo : Nat) (as : List Value) (q : zq) (u : zU) (E : String) (q' : zq) (u' : zU) : Prop :=
  vx_Met l y (.code y cc maxL ret :: wsA) { frames := fr, cells := 1, slots := 6, locals := lo } (z_Pc D A b (zg G q) as u) z_No (z_XC D A b G E q' u') 1 6 A
abbrev z_EndX (D : zD) (A : Nat → Prop) (b : Nat) (G : zG) (below : List Frame) (args : Array Value) (s : State) (E : String) (q' : zq) (u' : zU) : State → Prop := vx_MQ below z_No (z_XC D A b G E q' u') args s 1 6 A
theorem z_enterT {l : Launch} {D : zD} {A : Nat → Prop} {b : Nat} {G : zG} {y : MethodName} {cc : ByteArray} {maxL : Nat} {ret : Option FieldType} {fr lo : Nat} {as : List Value} {q q' : zq} {u : zU} {v : Option Value} {u' : zU} (hy : plainName y.cls = true) (hn : (lg_sl as).length ≤ maxL)
    (body : ∀ (p : Program) (e : Env) (s : State) (m : MethodId) (below : List Frame) (meth : Method) (c : Code) (ls : Array Slot), z_C p c cc s m as.toArray y.cls D A → meth.sig.returnType = ret → c.maxLocals = maxL → meth.locks = false → z_W D A b (zg G q) u s.heap → va_S A s.heap s.heap [] → lv_has ls maxL (lv_args 0 as) →
      W p l e { frames := fr, cells := 0, slots := 0, locals := lo } s m as.toArray below meth c s.heap [] 0 0 (z_EndT D A b G below as.toArray s v q' u') (F0 m 0 ls [])) : z_MT l D A b G y cc maxL ret fr lo as q u v q' u' := by
  unfold z_MT
  refine Met.ofW (cc := cc) (maxL := maxL) (ret := ret) hy rfl ?_
  intro p e s m vals below meth c s₁ B hml hv
  obtain ⟨rfl, hK, hW⟩ := hv
  have hts : ∀ w ∈ Cond.code y cc maxL ret :: wsA, w.before as.toArray s = true := atoms_spec (ws := Cond.code y cc maxL ret :: wsA) B.pre
  have hown : s.vm.findClass y.cls = some m.cls := findClass_of_methodNamed B.named
  have hl := lv_entry as (n := maxL) hn
  rw [lg_entry_eq]
  exact body p e s m below meth c _ ⟨B.exec, B.bytes, fun w h => hts w (List.mem_cons_of_mem _ h), hown, hK⟩ B.returns hml B.notSynchronized hW va_S.rf hl
theorem z_enterX {l : Launch} {D : zD} {A : Nat → Prop} {b : Nat} {G : zG} {y : MethodName} {cc : ByteArray} {maxL : Nat} {ret : Option FieldType} {fr lo : Nat} {as : List Value} {q q' : zq} {u : zU} {E : String} {u' : zU} (hy : plainName y.cls = true) (hn : (lg_sl as).length ≤ maxL)
    (body : ∀ (p : Program) (e : Env) (s : State) (m : MethodId) (below : List Frame) (meth : Method) (c : Code) (ls : Array Slot), z_C p c cc s m as.toArray y.cls D A → (∀ x ∈ c.exceptionTable.toList, False) → c.maxLocals = maxL → meth.locks = false → z_W D A b (zg G q) u s.heap → va_S A s.heap s.heap [] → lv_has ls maxL (lv_args 0 as) →
      W p l e { frames := fr, cells := 1, slots := 6, locals := lo } s m as.toArray below meth c s.heap [] 0 0 (z_EndX D A b G below as.toArray s E q' u') (F0 m 0 ls [])) : z_TX l D A b G y cc maxL ret fr lo as q u E q' u' := by
  unfold z_TX
  refine vx_ofW (cc := cc) (maxL := maxL) (ret := ret) hy rfl ?_
  intro p e s m vals below meth c s₁ B hml hex hv
  obtain ⟨rfl, hK, hW⟩ := hv
  have hts : ∀ w ∈ Cond.code y cc maxL ret :: wsA, w.before as.toArray s = true := atoms_spec (ws := Cond.code y cc maxL ret :: wsA) B.pre
  have hown : s.vm.findClass y.cls = some m.cls := findClass_of_methodNamed B.named
  have hl := lv_entry as (n := maxL) hn
  rw [lg_entry_eq]
  exact body p e s m below meth c _ ⟨B.exec, B.bytes, fun w h => hts w (List.mem_cons_of_mem _ h), hown, hK⟩ hex hml B.notSynchronized hW va_S.rf hl
/-- cells that were there stay as the heap grows -/
theorem z_at_lt {D : zD} {b : Nat} {q : zQ} {x : Nat → Int32} {a : Nat} {H : Heap} (h : z_at D b q x a H) (h0 : q.1 ≠ 0) : a < H.size := by
  obtain ⟨k, n, rf⟩ := q
  match k, h, h0 with
  | 0, _, h0 => exact absurd rfl h0
  | 1, h, _ => exact (Array.getElem?_eq_some_iff.mp h).1
  | 2, h, _ => exact (Array.getElem?_eq_some_iff.mp h).1
  | 3, h, _ => exact (Array.getElem?_eq_some_iff.mp h).1
  | k + 4, h, _ => obtain ⟨cell, q1, -⟩ := h; exact (Array.getElem?_eq_some_iff.mp q1).1
theorem z_at_grow {D : zD} {b : Nat} {q : zQ} {x : Nat → Int32} {a : Nat} {H H1 : Heap} (h : z_at D b q x a H) (hk : ∀ q : Nat, q < H.size → H1[q]? = H[q]?) : z_at D b q x a H1 := by
  by_cases h0 : q.1 = 0
  · unfold z_at; rw [h0]; exact trivial
  · exact h.kept (hk _ (z_at_lt h h0))
section ZTT
variable {p : Program} {l : Launch} {e : Env} {R : Room} {s : State} {m : MethodId} {args : Array Value} {below : List Frame} {meth : Method} {c : Code} {H : Heap} {locs : List Loc} {Q : State → Prop}
variable {cc : ByteArray} {pc : Nat} {ls : Array Slot} {rest : List Value} {D : zD} {A : Nat → Prop} {b : Nat} {G : zG} {q q' : zq} {u u' : zU} {own : String} {st : List Value}
variable {y : MethodName} {cy : ByteArray} {maxL nL n index fr lo ci r0 : Nat} {ret : Option FieldType} {As : List Value} {v : Option Value} {x : Int32} {E : String}
theorem z_backT {a : Array Value} (hr : va_Run p l e R s m args below meth c H locs 0 0 0 0 (F0 m pc ls st) rest (z_QT D A b G v q' u' a) A) (hS : va_S A s.heap H locs)
    (kk : ∀ (H1 : Heap) (locs1 : List Loc), z_W D A b (zg G q') u' H1 → va_S A s.heap H1 locs1 → zTop G q' → W p l e R s m args below meth c H1 locs1 0 0 Q (F0 m (pc + 3) ls (v.toList ++ rest))) : W p l e R s m args below meth c H locs 0 0 Q (F0 m pc ls st) := by
  intro T hT X
  obtain ⟨v', st₀, t, T', L, h0, X', hL, e1, e2, ⟨hv, hw, ⟨hz, hk⟩, htp⟩, go⟩ := hr T hT X
  cases hv
  rw [h0] at hz hk
  obtain ⟨t2, a1, b1⟩ := kk T'.heap (locs ++ L) (by rw [e1]; exact hw) ⟨Nat.le_trans hS.1 (by rw [e1]; exact hz), fun q h1 h2 => by rw [e1, hk q (Nat.lt_of_lt_of_le h1 hS.1) h2]; exact hS.2.1 q h1 h2, fun q hq => by
      rcases List.mem_append.mp hq with h | h
      · exact hS.2.2 q h
      · exact hL q h⟩ htp T' rfl X'
  exact ⟨t2, go t2 a1, b1⟩
theorem z_cvT (C0 : z_C p c cc s m args own D A) (hml : c.maxLocals = nL) (hl : ls.size = nL) (hW : z_W D A b (zg G q) u H) (hS : va_S A s.heap H locs) (hM : z_MT l D A b G y cy maxL ret fr lo (.ref (b + r0) :: As) q u v q' u') (Y : z_YV own index y cy maxL ret ci n) (hg : (zg G q r0).1 = ci + 4)
    (hR : fr + 1 ≤ R.frames ∧ 8 + (maxL + 11) + lo ≤ R.locals) (hst : st = As.reverse ++ .ref (b + r0) :: rest) (hn : As.length = n) (hw : (rest.map fun v => v.category).sum ≤ 8) (hdg : decode cc pc = .ok (.invokevirtual index, 3))
    (kk : ∀ (H1 : Heap) (locs1 : List Loc), z_W D A b (zg G q') u' H1 → va_S A s.heap H1 locs1 → zTop G q' → W p l e R s m args below meth c H1 locs1 0 0 Q (F0 m (pc + 3) ls (v.toList ++ rest))) : W p l e R s m args below meth c H locs 0 0 Q (F0 m pc ls st) := by
  obtain ⟨hx, hb, hts, hown, hK⟩ := C0
  obtain ⟨hG, hd, T, N, hc⟩ := Y
  obtain ⟨cell, q1, q2, q3, -⟩ := z_ob hW hg
  obtain ⟨-, hfc, -⟩ := hK.1.1 ci _ hc
  exact z_backT (va_runV (C := y.cls) (bytes := cy) (maxL := maxL) (ret := ret) (n := n) ⟨hx, hb, hml, hown, hts⟩ hM (cwV n hts hG rfl rfl rfl ⟨rfl, hd⟩ hR) ⟨z_blind, ⟨cell, q1, by rw [q3]; rfl, by rw [q2]; exact hfc⟩, fun U hU hW2 => ⟨rfl, hK.at hW2 hU hS, by rw [hU]; exact hW⟩⟩ rfl hn hl hst (lv_room hw) hdg ⟨Nat.zero_le _, Nat.zero_le _⟩) hS kk
theorem z_cvTi (C0 : z_C p c cc s m args own D A) (hml : c.maxLocals = nL) (hl : ls.size = nL) (hW : z_W D A b (zg G q) u H) (hS : va_S A s.heap H locs) (hM : z_MT l D A b G y cy maxL ret fr lo (.ref (b + r0) :: As) q u (some (.int x)) q' u') (Y : z_YV own index y cy maxL ret ci n) (hg : (zg G q r0).1 = ci + 4)
    (hR : fr + 1 ≤ R.frames ∧ 8 + (maxL + 11) + lo ≤ R.locals) (hst : st = As.reverse ++ .ref (b + r0) :: rest) (hn : As.length = n) (hw : (rest.map fun v => v.category).sum ≤ 8) (hdg : decode cc pc = .ok (.invokevirtual index, 3))
    (kk : ∀ (H1 : Heap) (locs1 : List Loc), z_W D A b (zg G q') u' H1 → va_S A s.heap H1 locs1 → zTop G q' → W p l e R s m args below meth c H1 locs1 0 0 Q (F0 m (pc + 3) ls (.int x :: rest))) : W p l e R s m args below meth c H locs 0 0 Q (F0 m pc ls st) := z_cvT C0 hml hl hW hS hM Y hg hR hst hn hw hdg kk
theorem z_cvTv (C0 : z_C p c cc s m args own D A) (hml : c.maxLocals = nL) (hl : ls.size = nL) (hW : z_W D A b (zg G q) u H) (hS : va_S A s.heap H locs) (hM : z_MT l D A b G y cy maxL ret fr lo (.ref (b + r0) :: As) q u none q' u') (Y : z_YV own index y cy maxL ret ci n) (hg : (zg G q r0).1 = ci + 4)
    (hR : fr + 1 ≤ R.frames ∧ 8 + (maxL + 11) + lo ≤ R.locals) (hst : st = As.reverse ++ .ref (b + r0) :: rest) (hn : As.length = n) (hw : (rest.map fun v => v.category).sum ≤ 8) (hdg : decode cc pc = .ok (.invokevirtual index, 3))
    (kk : ∀ (H1 : Heap) (locs1 : List Loc), z_W D A b (zg G q') u' H1 → va_S A s.heap H1 locs1 → zTop G q' → W p l e R s m args below meth c H1 locs1 0 0 Q (F0 m (pc + 3) ls rest)) : W p l e R s m args below meth c H locs 0 0 Q (F0 m pc ls st) := z_cvT C0 hml hl hW hS hM Y hg hR hst hn hw hdg kk
theorem z_csTv (C0 : z_C p c cc s m args own D A) (hml : c.maxLocals = nL) (hl : ls.size = nL) (hW : z_W D A b (zg G q) u H) (hS : va_S A s.heap H locs) (hM : z_MT l D A b G y cy maxL ret fr lo As q u none q' u') (Y : z_YS own index y cy maxL ret n)
    (hR : fr + 1 ≤ R.frames ∧ 8 + (maxL + 11) + lo ≤ R.locals) (hst : st = As.reverse ++ rest) (hn : As.length = n) (hw : (rest.map fun v => v.category).sum ≤ 8) (hdg : decode cc pc = .ok (.invokestatic index, 3))
    (kk : ∀ (H1 : Heap) (locs1 : List Loc), z_W D A b (zg G q') u' H1 → va_S A s.heap H1 locs1 → zTop G q' → W p l e R s m args below meth c H1 locs1 0 0 Q (F0 m (pc + 3) ls rest)) : W p l e R s m args below meth c H locs 0 0 Q (F0 m pc ls st) := by
  obtain ⟨hx, hb, hts, hown, hK⟩ := C0
  obtain ⟨hG, hd⟩ := Y
  exact z_backT (v := none) (va_runS (bytes := cy) (maxL := maxL) (ret := ret) (n := n) ⟨hx, hb, hml, hown, hts⟩ hM (va_cwS n hts hG rfl rfl rfl hd hR) ⟨z_blind, fun U hU hW2 => ⟨rfl, hK.at hW2 hU hS, by rw [hU]; exact hW⟩⟩ rfl hn hl hst (lv_room hw) hdg ⟨Nat.zero_le _, Nat.zero_le _⟩) hS kk
theorem z_iretT (C0 : z_C p c cc s m args own D A) (hr : meth.sig.returnType = some .int) (hlk : meth.locks = false) (hW : z_W D A b (zg G q) u H) (hS : va_S A s.heap H locs) (hT : zTop G q) (hdg : decode cc pc = .ok (.ireturn, 1)) : W p l e R s m args below meth c H locs 0 0 (z_EndT D A b G below args s (some (.int x)) q u) (F0 m pc ls [.int x]) :=
  W.iret (v := x) C0.1 C0.2.1 hr (fun t ht _ => ⟨rfl, by rw [ht]; exact hW, hS.F ht, hT⟩) hS.2.2 hdg hlk
theorem z_zretT (C0 : z_C p c cc s m args own D A) (hr : meth.sig.returnType = some .boolean) (hlk : meth.locks = false) (hW : z_W D A b (zg G q) u H) (hS : va_S A s.heap H locs) (hT : zTop G q) {x : Bool} (hdg : decode cc pc = .ok (.ireturn, 1)) : W p l e R s m args below meth c H locs 0 0 (z_EndT D A b G below args s (some (.int (bI x))) q u) (F0 m pc ls [.int (bI x)]) :=
  W.zret (v := bI x) C0.1 C0.2.1 hr (bI_nar x) (fun t ht _ => ⟨rfl, by rw [ht]; exact hW, hS.F ht, hT⟩) hS.2.2 hdg hlk
theorem z_vretT (C0 : z_C p c cc s m args own D A) (hr : meth.sig.returnType = none) (hlk : meth.locks = false) (hW : z_W D A b (zg G q) u H) (hS : va_S A s.heap H locs) (hT : zTop G q) (hdg : decode cc pc = .ok (.return_, 1)) : W p l e R s m args below meth c H locs 0 0 (z_EndT D A b G below args s none q u) (F0 m pc ls []) :=
  W.vret C0.1 C0.2.1 hr (fun t ht _ => ⟨rfl, by rw [ht]; exact hW, hS.F ht, hT⟩) hS.2.2 hdg hlk
/-- a callee that throws, not caught here -/
theorem z_backX {a : Array Value} (hr : vx_Run p l e R s m args below meth c H locs 0 0 1 6 (F0 m pc ls st) rest (z_No a) (z_XC D A b G E q' u') A) (hS : va_S A s.heap H locs) (hex : ∀ x ∈ c.exceptionTable.toList, False) (hlk : meth.locks = false) : W p l e R s m args below meth c H locs 0 0 (z_EndX D A b G below args s E q' u') (F0 m pc ls st) := by
  intro T hT X
  rcases hr T hT X with ⟨v', st₀, t, T', L, h0, X', hL, e1, e2, hf, go⟩ | ⟨qa, st₀, t, T', L, E', ce, h0, X', hL, e1, e2, ⟨hE, hw, ⟨hz, hk⟩, htp⟩, hce, hcv, hcl, go⟩
  · exact hf.elim
  · subst hE
    rw [h0] at hz hk
    have hS' : va_S A s.heap T'.heap (locs ++ L) := ⟨Nat.le_trans hS.1 (by rw [e1]; exact hz), fun q h1 h2 => by rw [e1, hk q (Nat.lt_of_lt_of_le h1 hS.1) h2]; exact hS.2.1 q h1 h2, fun q hq => by
      rcases List.mem_append.mp hq with h | h
      · exact hS.2.2 q h
      · exact hL q h⟩
    obtain ⟨t2, a1, b1⟩ := vx_out (Qc := z_No) (XC := z_XC D A b G E' q' u') (free := A) (mc := 1) (ms := 6) (pc := pc) (ls := ls) (rest := rest) (R := R) (cells := 0 + 1) (slots := 0 + 6) (l := l) (p := p) (e := e) (args := args) (below := below) (H := T'.heap) (locs := locs ++ L) (fun x hx => (hex x hx).elim) hlk (by rw [e1]; exact hce) hcv hcl (fun t' ht' _ => ⟨rfl, by rw [ht', e1]; exact hw, hS'.F ht', htp⟩) hS'.2.2 (by decide) (by decide) T' rfl X'
    exact ⟨t2, go.trans a1, b1⟩
theorem z_cvX (C0 : z_C p c cc s m args own D A) (hml : c.maxLocals = nL) (hl : ls.size = nL) (hW : z_W D A b (zg G q) u H) (hS : va_S A s.heap H locs) (hex : ∀ x ∈ c.exceptionTable.toList, False) (hlk : meth.locks = false) (hM : z_TX l D A b G y cy maxL ret fr lo (.ref (b + r0) :: As) q u E q' u') (Y : z_YV own index y cy maxL ret ci n) (hg : (zg G q r0).1 = ci + 4)
    (hR : fr + 1 ≤ R.frames ∧ 8 + (maxL + 11) + lo ≤ R.locals) (hRc : 1 ≤ R.cells ∧ 6 ≤ R.slots) (hst : st = As.reverse ++ .ref (b + r0) :: rest) (hn : As.length = n) (hw : (rest.map fun v => v.category).sum ≤ 8) (hdg : decode cc pc = .ok (.invokevirtual index, 3)) : W p l e R s m args below meth c H locs 0 0 (z_EndX D A b G below args s E q' u') (F0 m pc ls st) := by
  obtain ⟨hx, hb, hts, hown, hK⟩ := C0
  obtain ⟨hG, hd, T, N, hc⟩ := Y
  obtain ⟨cell, q1, q2, q3, -⟩ := z_ob hW hg
  obtain ⟨-, hfc, -⟩ := hK.1.1 ci _ hc
  exact z_backX (vx_runV (C := y.cls) (bytes := cy) (maxL := maxL) (ret := ret) (n := n) ⟨hx, hb, hml, hown, hts⟩ hM (cwV n hts hG rfl rfl rfl ⟨rfl, hd⟩ hR) ⟨z_blind, ⟨cell, q1, by rw [q3]; rfl, by rw [q2]; exact hfc⟩, fun U hU hW2 => ⟨rfl, hK.at hW2 hU hS, by rw [hU]; exact hW⟩⟩ rfl hn hl hst (lv_room hw) hdg ⟨by rw [Nat.zero_add]; exact hRc.1, by rw [Nat.zero_add]; exact hRc.2⟩) hS hex hlk
theorem z_csX (C0 : z_C p c cc s m args own D A) (hml : c.maxLocals = nL) (hl : ls.size = nL) (hW : z_W D A b (zg G q) u H) (hS : va_S A s.heap H locs) (hex : ∀ x ∈ c.exceptionTable.toList, False) (hlk : meth.locks = false) (hM : z_TX l D A b G y cy maxL ret fr lo As q u E q' u') (Y : z_YS own index y cy maxL ret n)
    (hR : fr + 1 ≤ R.frames ∧ 8 + (maxL + 11) + lo ≤ R.locals) (hRc : 1 ≤ R.cells ∧ 6 ≤ R.slots) (hst : st = As.reverse ++ rest) (hn : As.length = n) (hw : (rest.map fun v => v.category).sum ≤ 8) (hdg : decode cc pc = .ok (.invokestatic index, 3)) : W p l e R s m args below meth c H locs 0 0 (z_EndX D A b G below args s E q' u') (F0 m pc ls st) := by
  obtain ⟨hx, hb, hts, hown, hK⟩ := C0
  obtain ⟨hG, hd⟩ := Y
  exact z_backX (vx_runS (bytes := cy) (maxL := maxL) (ret := ret) (n := n) ⟨hx, hb, hml, hown, hts⟩ hM (va_cwS n hts hG rfl rfl rfl hd hR) ⟨z_blind, fun U hU hW2 => ⟨rfl, hK.at hW2 hU hS, by rw [hU]; exact hW⟩⟩ rfl hn hl hst (lv_room hw) hdg ⟨by rw [Nat.zero_add]; exact hRc.1, by rw [Nat.zero_add]; exact hRc.2⟩) hS hex hlk
/-- the constructors of the exceptions' superclasses -/
def z_DW : Prop := ∀ y ∈ [Bundle.initS "java/lang/RuntimeException", Bundle.initS "java/lang/Exception", Bundle.initS Bundle.tN], ∃ (bts : ByteArray) (n : Nat) (ret : Option FieldType), Cond.instanceMethod y ∈ wsA ∧ Cond.code y bts n ret ∈ wsA
theorem z_decl (C0 : z_C p c cc s m args own D A) (dw : z_DW) {y : MethodName} (hy : y ∈ [Bundle.initS "java/lang/RuntimeException", Bundle.initS "java/lang/Exception", Bundle.initS Bundle.tN]) : (Cond.declares y).before args s = true := by
  obtain ⟨bts, n, ret, h1, h2⟩ := dw y hy
  obtain ⟨r0, r, a1, a2, a3, a4⟩ := va_Decl.of (C0.2.2.1 _ h1) (C0.2.2.1 _ h2)
  simp [Cond.before, Cond.holds, Cond.value, a1, a2, a3, a4]
/-- a throw's words: the class, its constructor, what they link -/
def z_TW (own : String) (ik ic : Nat) (cls : String) : Prop := cls ∈ zExs ∧ Bundle.fit cls = true ∧ Cond.classLink own ik cls ∈ wsA ∧ Cond.initialized cls ∈ wsA ∧ (∀ w ∈ (vx_atS own ic cls ["java/lang/RuntimeException", "java/lang/Exception"]).filter goodWord, w ∈ wsA) ∧
  (∀ w ∈ (vx_atS own ic cls ["java/lang/RuntimeException", "java/lang/Exception"]).filter (fun w => !goodWord w), w ∈ [Cond.castable cls cls, Cond.declares (Bundle.initS "java/lang/RuntimeException"), Cond.declares (Bundle.initS "java/lang/Exception"), Cond.declares (Bundle.initS Bundle.tN)]) ∧ z_DW ∧ ∀ w ∈ Cond.classLink own ik cls :: Cond.initialized cls :: vx_atS own ic cls ["java/lang/RuntimeException", "java/lang/Exception"], vx_ot w = true
theorem z_castable {C0s : State} {X : String} (h : ∃ c : ClassId, C0s.vm.findClass X = some c ∧ C0s.vm.assignable c c = true) (args : Array Value) : (Cond.castable X X).before args C0s = true := by
  obtain ⟨c, h1, h2⟩ := h
  simp [Cond.before, Cond.holds, Cond.value, h1, h2]
theorem z_hat (C0 : z_C p c cc s m args own D A) {ik ic : Nat} {cls : String} (tw : z_TW own ik ic cls) : ∀ w ∈ vx_atS own ic cls ["java/lang/RuntimeException", "java/lang/Exception"], w.before args s = true := by
  obtain ⟨hm, -, -, -, h1, h2, dw, -⟩ := tw
  exact vx_hat (fun w h => C0.2.2.1 w (h1 w h)) h2 (vx_c (z_castable (C0.2.2.2.2.2.2.2.2.2.2.2.1 cls hm) args) (vx_c (z_decl C0 dw (by simp)) (vx_c (z_decl C0 dw (by simp)) (vx_c (z_decl C0 dw (by simp)) vx_n))))
theorem z_thr (C0 : z_C p c cc s m args own D A) (hst : l.stackTraces = false) (hml : c.maxLocals = nL) (hl : ls.size = nL) (hW : z_W D A b (zg G q) u H) (hS : va_S A s.heap H locs) (hT : zTop G q) (hex : ∀ x ∈ c.exceptionTable.toList, False) (hlk : meth.locks = false) {ik ic is k : Nat} {cls tx : String} (tw : z_TW own ik ic cls) (hq : (own, is, tx, k) ∈ sEnt)
    (hR : 6 ≤ R.frames ∧ (rest.map fun v => v.category).sum + 82 ≤ R.locals) (hRc : 1 ≤ R.cells ∧ 6 ≤ R.slots)
    (d0 : decode cc pc = .ok (.new ik, 3)) (d3 : decode cc (pc + 3) = .ok (.dup, 1)) (d4 : decode cc (pc + 4) = .ok (.ldc is, 2)) (d6 : decode cc (pc + 6) = .ok (.invokespecial ic, 3)) (d9 : decode cc (pc + 9) = .ok (.athrow, 1)) : W p l e R s m args below meth c H locs 0 0 (z_EndX D A b G below args s cls q u) (F0 m pc ls rest) := by
  refine vx_throwS (cls := cls) (names := ["java/lang/RuntimeException", "java/lang/Exception"]) (mc := 1) (ms := 6) C0.1 C0.2.1 hst C0.2.2.2.1 tw.2.1 (by decide +kernel) (C0.2.2.1 _ tw.2.2.1) (C0.2.2.1 _ tw.2.2.2.1) (C0.2.2.2.2.2.2.2.2.1 _ hq) (z_hat C0 tw) tw.2.2.2.2.2.2.2 C0.2.2.2.2.2.2.2.2.2.1 C0.2.2.2.2.2.2.2.2.2.2.1 hS (hl.trans hml.symm) d0 d3 d4 d6 d9 (fun x h => (hex x h).elim) (by show 2 + 3 < _; omega) (by show _ + (13 * (2 + 1) + 43) ≤ _; omega) (by omega) (by omega) hlk (fun t _ hz hk => ⟨rfl, fun r => ?_, ⟨Nat.le_trans hS.1 hz, fun q h1 h2 => (hk q (Nat.lt_of_lt_of_le h1 hS.1)).trans (hS.2.1 q h1 h2)⟩, hT⟩) hS.2.2 (by decide) (by decide)
  exact ⟨z_at_grow (hW r).1 hk, (hW r).2⟩
theorem z_thrW (C0 : z_C p c cc s m args own D A) (hst : l.stackTraces = false) (hml : c.maxLocals = nL) (hl : ls.size = nL) (hW : z_W D A b (zg G q) u H) (hS : va_S A s.heap H locs) (hT : zTop G q) (hex : ∀ x ∈ c.exceptionTable.toList, False) (hlk : meth.locks = false) {ik ic is k : Nat} {cls tx : String} (tw : z_TW own ik ic cls) (hq : (own, is, tx, k) ∈ sEnt)
    (hR : 6 ≤ R.frames ∧ (rest.map fun v => v.category).sum + 82 ≤ R.locals) (hRc : 1 ≤ R.cells ∧ 6 ≤ R.slots)
    (d0 : decode cc pc = .ok (.new ik, 3)) (d3 : decode cc (pc + 3) = .ok (.dup, 1)) (d4 : decode cc (pc + 4) = .ok (.ldc_w is, 3)) (d7 : decode cc (pc + 7) = .ok (.invokespecial ic, 3)) (d10 : decode cc (pc + 10) = .ok (.athrow, 1)) : W p l e R s m args below meth c H locs 0 0 (z_EndX D A b G below args s cls q u) (F0 m pc ls rest) := by
  refine vx_throwSW (cls := cls) (names := ["java/lang/RuntimeException", "java/lang/Exception"]) (mc := 1) (ms := 6) C0.1 C0.2.1 hst C0.2.2.2.1 tw.2.1 (by decide +kernel) (C0.2.2.1 _ tw.2.2.1) (C0.2.2.1 _ tw.2.2.2.1) (C0.2.2.2.2.2.2.2.2.1 _ hq) (z_hat C0 tw) tw.2.2.2.2.2.2.2 C0.2.2.2.2.2.2.2.2.2.1 C0.2.2.2.2.2.2.2.2.2.2.1 hS (hl.trans hml.symm) d0 d3 d4 d7 d10 (fun x h => (hex x h).elim) (by show 2 + 3 < _; omega) (by show _ + (13 * (2 + 1) + 43) ≤ _; omega) (by omega) (by omega) hlk (fun t _ hz hk => ⟨rfl, fun r => ?_, ⟨Nat.le_trans hS.1 hz, fun q h1 h2 => (hk q (Nat.lt_of_lt_of_le h1 hS.1)).trans (hS.2.1 q h1 h2)⟩, hT⟩) hS.2.2 (by decide) (by decide)
  exact ⟨z_at_grow (hW r).1 hk, (hW r).2⟩
end ZTT
