/-! THE STORE: all cells of a world as numbers by place: 'u r k' is the k-th int of the region r (an object's field, an array's element); the region r lies at the address b + r; 'g' tells each region's kind, length and references. -/
def bI (x : Bool) : Int32 := if x then 1 else 0
theorem bI_nar (x : Bool) : narrow .boolean (.int (bI x)) = .int (bI x) := by cases x <;> rfl
theorem bI_fit (x : Bool) : fits .boolean (.int (bI x)) = true := by cases x <;> rfl
theorem bI_0 {x : Bool} : bI x = 0 ↔ x = false := by cases x <;> decide
theorem bI_1 {x : Bool} : ¬ bI x = 0 ↔ x = true := by cases x <;> decide
abbrev zU : Type := Nat → Nat → Int32
abbrev zQ : Type := Nat × Nat × (Nat → Option Nat)
abbrev zG : Type := Nat → zQ
abbrev zD : Type := va_G × ClassId × ClassId × ClassId × (Nat → Nat) × (Nat → Nat)
def zRfL : List (List Nat) := [[0], [0, 2], [0], [0, 1], [1, 2, 3, 4, 5, 6, 7], [0, 2, 3, 4, 5, 6, 7], [0], [0, 1, 2], [0, 1, 2, 3, 4, 5, 6, 7, 19], [0, 1, 2, 3, 4, 5, 6, 7, 8], [1, 2, 4, 5, 7, 14, 20, 21, 22]]
def zRf (k j : Nat) : Bool := (zRfL.getD k []).elem j
def zNF (k : Nat) : Nat := ((vwCl[k]?).map (fun q => q.2.2)).getD 0
def z_V (b k : Nat) (rf : Nat → Option Nat) (x : Nat → Int32) : Nat → Value := fun j => if zRf k j = true then va_rf ((rf j).map (fun o => b + o)) else .int (x j)
def z_at (D : zD) (b : Nat) (q : zQ) (x : Nat → Int32) (a : Nat) (H : Heap) : Prop :=
  match q.1 with
  | 0 => True
  | 1 => H[a]? = some (arrV D.2.1 q.2.1 (fun j => .int (x j)))
  | 2 => H[a]? = some (arrV D.2.2.1 q.2.1 (fun j => .int (x j)))
  | 3 => H[a]? = some (arrV D.2.2.2.1 q.2.1 (fun j => va_rf ((q.2.2 j).map (fun o => b + o))))
  | k + 4 => t_OB a (D.1.1 k) (zNF k) (D.1.2 k) H (z_V b k q.2.2 x)
def z_W (D : zD) (A : Nat → Prop) (b : Nat) (g : zG) (u : zU) (H : Heap) : Prop := ∀ r : Nat, z_at D b (g r) (u r) (b + r) H ∧ ((g r).1 ≠ 0 → A (b + r))
def z_up (u : zU) (r k : Nat) (v : Int32) : zU := fun r' => if r' = r then upd (u r) k v else u r'
theorem z_up_ne {u : zU} {r k r' : Nat} {v : Int32} (h : r' ≠ r) : z_up u r k v r' = u r' := if_neg h
theorem z_up_eq {u : zU} {r k : Nat} {v : Int32} : z_up u r k v r = upd (u r) k v := if_pos rfl
theorem z_at.kept {D : zD} {b : Nat} {q : zQ} {x : Nat → Int32} {a : Nat} {H H1 : Heap} (h : z_at D b q x a H) (hq : H1[a]? = H[a]?) : z_at D b q x a H1 := by
  obtain ⟨k, n, rf⟩ := q
  match k, h with
  | 0, _ => exact trivial
  | 1, h => exact hq.trans h
  | 2, h => exact hq.trans h
  | 3, h => exact hq.trans h
  | k + 4, h => exact t_OB.kept h hq
theorem z_W.put {D : zD} {A : Nat → Prop} {b : Nat} {g : zG} {u : zU} {H H1 : Heap} (hW : z_W D A b g u H) {r k : Nat} {v : Int32} (h1 : z_at D b (g r) (upd (u r) k v) (b + r) H1) (oq : ∀ q : Nat, q ≠ b + r → H1[q]? = H[q]?) : z_W D A b g (z_up u r k v) H1 := by
  intro r'
  by_cases e : r' = r
  · subst e
    rw [z_up_eq]
    exact ⟨h1, (hW r').2⟩
  · rw [z_up_ne e]
    exact ⟨(hW r').1.kept (oq _ (by omega)), (hW r').2⟩
def z_in (i : Int32) (n : Nat) : Bool := decide (¬ i < 0) && decide (i.toNatClampNeg < n)
theorem z_in_vp {i : Int32} {n : Nat} (h : z_in i n = true) : vp_in i n := by
  unfold z_in at h
  simp only [Bool.and_eq_true, decide_eq_true_eq] at h
  exact fun q => q.elim h.1 (fun q => Nat.not_le.mpr h.2 q)
theorem z_if {α : Type} {c : Prop} [Decidable c] {a : Option α} {x : α} (h : (if c then a else none) = some x) : c ∧ a = some x := by
  by_cases hc : c
  · rw [if_pos hc] at h; exact ⟨hc, h⟩
  · rw [if_neg hc] at h; cases h
theorem z_bd {α β : Type} {a : Option α} {f : α → Option β} {x : β} (h : a.bind f = some x) : ∃ y, a = some y ∧ f y = some x := by
  cases a with
  | none => cases h
  | some y => exact ⟨y, rfl, h⟩
def wsA : List Cond := lw_tbl.filter goodWord
theorem wsA_good : GoodIn wsA wsA := fun w h => ⟨h, good_of_word (List.mem_filter.mp h).2⟩
/-- the exceptions' classes: what can be cast to what -/
def zExs : List String := ["java/lang/IllegalArgumentException", "java/lang/UnsupportedOperationException", "java/lang/IndexOutOfBoundsException", "java/util/NoSuchElementException", "java/lang/IllegalStateException"]
def zNcs : List (String × String) := [("java/lang/UnsupportedOperationException", "java/lang/IllegalArgumentException"), ("java/util/NoSuchElementException", "java/lang/IndexOutOfBoundsException"), ("java/lang/IllegalStateException", "java/lang/IndexOutOfBoundsException"), ("java/lang/IllegalArgumentException", "java/lang/IndexOutOfBoundsException"), ("java/lang/IllegalStateException", "java/lang/IllegalArgumentException"), ("java/util/NoSuchElementException", "java/lang/IllegalArgumentException")]
def zNst : List (String × Nat × MethodName × String) := [("TopWheel", 9, ⟨"TopWheel$Tape", "<init>", "()V"⟩, "TopWheel"), ("TopWheel", 27, ⟨"TopWheel$Wheel", "<init>", "()V"⟩, "TopWheel"), ("TopWheel", 55, ⟨"TopWheel$Journal", "<init>", "()V"⟩, "TopWheel"), ("TopWheel$Acts", 22, ⟨"TopWheel$Keep", "<init>", "()V"⟩, "TopWheel"), ("TopWheel$Keep", 9, ⟨"TopWheel$Wheel", "<init>", "()V"⟩, "TopWheel"), ("TopWheel$Keep", 18, ⟨"TopWheel$Journal", "<init>", "()V"⟩, "TopWheel"), ("TopWheel", 69, ⟨"TopWheel$Keep", "<init>", "()V"⟩, "TopWheel")]
def z_E (U : State) : Prop := (∀ X ∈ zExs, ∃ c : ClassId, U.vm.findClass X = some c ∧ U.vm.assignable c c = true) ∧ (∀ q ∈ zNcs, va_Nc q.1 q.2 U) ∧ va_Nw (.declares ⟨"TopWheel$Reader", "readLine", "()V"⟩) U ∧ ∀ q ∈ zNst, va_Nw (.methodLinkNest q.1 q.2.1 q.2.2.1 q.2.2.2) U
theorem z_E.warm {s U : State} (hW : s.WarmedH U.vm) (h : z_E s) : z_E U := by
  refine ⟨fun X hX => ?_, fun q hq => (h.2.1 q hq).moved hW.alike, h.2.2.1.warmD hW, fun q hq => (h.2.2.2 q hq).warmM hW⟩
  obtain ⟨c, h1, h2⟩ := h.1 X hX
  exact ⟨c, by rw [hW.alike.findClass]; exact h1, by rw [hW.alike.assignable]; exact h2⟩
theorem z_E.same {u U : State} (h0 : u.vm = U.vm) (h : z_E u) : z_E U := by
  refine ⟨fun X hX => ?_, fun q hq => (h.2.1 q hq).moved (by rw [h0]; exact Vm.Alike.refl _), h.2.2.1.same rfl h0, fun q hq => (h.2.2.2 q hq).same rfl h0⟩
  obtain ⟨c, h1, h2⟩ := h.1 X hX
  exact ⟨c, by rw [← h0]; exact h1, by rw [← h0]; exact h2⟩
/-- the String constants, and the statics that their methods read -/
def z_T (D : zD) (A : Nat → Prop) (U : State) (H : Heap) : Prop := va_Z "java/lang/String" "COMPACT_STRINGS" "Z" (.int 1) A U H ∧ va_Zq "jdk/internal/util/Preconditions" "SIOOBE_FORMATTER" "Ljava/util/function/BiFunction;" A U H ∧ vk_S sN sLen sByt D.2.2.2.2.1 D.2.2.2.2.2 A U H ∧ (∀ q ∈ sEnt, vk_R q.1 q.2.1 q.2.2.1 (D.2.2.2.2.1 q.2.2.2) U) ∧ vx_Zq Bundle.tN "UNASSIGNED_STACK" Bundle.steD A U H ∧ vx_Zq Bundle.tN "SUPPRESSED_SENTINEL" Bundle.listD A U H ∧ z_E U
def z_K (D : zD) (A : Nat → Prop) (U : State) : Prop := va_K D.1 vwCl [(D.2.1, .int), (D.2.2.1, .boolean), (D.2.2.2.1, .object "TopWheel$Keep")] U ∧ z_T D A U U.heap
theorem z_K.at {D : zD} {A : Nat → Prop} {s U : State} {H : Heap} {locs : List Loc} (h : z_K D A s) (hW : s.WarmedH U.vm) (hU : U.heap = H) (hS : va_S A s.heap H locs) : z_K D A U := by
  obtain ⟨h0, h1, h2, h3, h4, h5, h6, h7⟩ := h
  subst hU
  exact ⟨va_K.moved hW.alike h0, (h1.moved hW.alike).kept hS.2.1, (h2.moved hW.alike).kept hS.2.1, (h3.moved hW.alike).kept hS.2.1, fun q hq => (h4 q hq).warm hW, (h5.moved hW.alike).kept hS.2.1, (h6.moved hW.alike).kept hS.2.1, h7.warm hW⟩
theorem z_K.calling {D : zD} {A : Nat → Prop} {U : State} (h : z_K D A U) (g : JFrame) (mk : MethodId) (a : Array Value) : z_K D A (U.calling g mk a) := by
  obtain ⟨h0, h1, h2, h3, h4, h5, h6, h7⟩ := h
  exact ⟨va_K.moved (u := U) (U := U.calling g mk a) (Vm.Alike.refl U.vm) h0, va_Z.moved (u := U) (U := U.calling g mk a) (Vm.Alike.refl U.vm) h1, va_Zq.moved (u := U) (U := U.calling g mk a) (Vm.Alike.refl U.vm) h2, vk_S.moved (u := U) (U := U.calling g mk a) (Vm.Alike.refl U.vm) h3, fun q hq => (h4 q hq).same rfl, vx_Zq.moved (u := U) (U := U.calling g mk a) (Vm.Alike.refl U.vm) h5, vx_Zq.moved (u := U) (U := U.calling g mk a) (Vm.Alike.refl U.vm) h6, h7.same rfl⟩
/-- what holds all along a walk -/
def z_C (p : Program) (c : Code) (cc : ByteArray) (s : State) (m : MethodId) (args : Array Value) (own : String) (D : zD) (A : Nat → Prop) : Prop :=
  p.tables.exec = Jvm.exec ∧ c.code = cc ∧ (∀ w ∈ wsA, w.before args s = true) ∧ s.vm.findClass own = some m.cls ∧ z_K D A s
/-- a field's row: the class own's entry 'index' is the field k (type ty, final or not) of the class ci -/
def z_FL (own : String) (index ci k : Nat) (ty : FieldType) (fin : Bool) : Prop :=
  ∃ (C : String) (T : u_T) (N : Nat) (ref : String) (ty0 : Nat → FieldType), vwCl[ci]? = some (C, T, N) ∧ (∀ w ∈ u_ws C T N, w ∈ wsA) ∧ k < N ∧ Cond.fieldLink own index ref (T k).2.1 (T k).2.2.1 ∈ wsA ∧
    (ref = (T k).1 ∨ Cond.sameField ref (T k).1 (T k).2.1 (T k).2.2.1 ∈ wsA) ∧ (∀ j, j < N → parseFieldDescriptor (T j).2.2.1 = some (ty0 j)) ∧ (∀ a, a < N → ∀ b, b < N → a ≠ b → (T a).2.1 ≠ (T b).2.1) ∧ ty0 k = ty ∧ (T k).2.2.2 = fin
theorem z_NF {ci : Nat} {q : vw_C} (h : vwCl[ci]? = some q) : zNF ci = q.2.2 := by unfold zNF; rw [h]; rfl
section ZR
variable {p : Program} {l : Launch} {e : Env} {R : Room} {s : State} {m : MethodId} {args : Array Value} {below : List Frame} {meth : Method} {c : Code} {H : Heap} {locs : List Loc} {cells slots : Nat} {Q : State → Prop}
variable {cc : ByteArray} {pc : Nat} {ls : Array Slot} {rest : List Value} {D : zD} {A : Nat → Prop} {b : Nat} {g : zG} {u : zU} {own : String} {H0 : Heap}
theorem z_ob (hW : z_W D A b g u H) {r ci : Nat} (hg : (g r).1 = ci + 4) : t_OB (b + r) (D.1.1 ci) (zNF ci) (D.1.2 ci) H (z_V b ci (g r).2.2 (u r)) := by
  have h := (hW r).1
  unfold z_at at h
  rw [hg] at h
  exact h
theorem z_in4 (hW : z_W D A b g u H) {r k : Nat} (hg : (g r).1 = k + 1) : A (b + r) := (hW r).2 (by rw [hg]; exact Nat.succ_ne_zero k)
theorem z_get (C0 : z_C p c cc s m args own D A) (hW : z_W D A b g u H) {index ci k r : Nat} {ty : FieldType} {fin : Bool} (F : z_FL own index ci k ty fin) (hg : (g r).1 = ci + 4) (hdg : decode cc pc = .ok (.getfield index, 3)) {v : Value} (hv : z_V b ci (g r).2.2 (u r) k = v)
    (kk : W p l e R s m args below meth c H locs cells slots Q (F0 m (pc + 3) ls (v :: rest))) : W p l e R s m args below meth c H locs cells slots Q (F0 m pc ls (.ref (b + r) :: rest)) := by
  obtain ⟨hx, hb, hts, hown, hK⟩ := C0
  obtain ⟨C, T, N, ref, ty0, hc, hin, hk, hlink, hsame, hty, hnm, -, -⟩ := F
  obtain ⟨cell, q1, q2, q3, q4⟩ := z_ob hW hg
  rw [z_NF hc] at q4
  obtain ⟨hS, hfc, kC, hkC, hkind⟩ := hK.1.1 ci _ hc
  obtain ⟨cf, kf, fi, f, hi, hsl⟩ := hS k hk
  have hi2 : s.fieldFound? ref (T k).2.1 (T k).2.2.1 = some (cf, kf, fi, f) := by
    rcases hsame with h | h
    · rw [h]; exact hi
    · exact u_same (hts _ h) _ hi
  refine W.getf hx hb hown (hts _ hlink) hi2 (u_facts hfc hkC (u_lays hts hin hk) hi).1 q1 (by rw [q3]; exact fun h => by cases h) (v := v) ?_ rfl rfl hdg kk
  rw [hsl, q4 k hk, hv]
theorem z_geti (C0 : z_C p c cc s m args own D A) (hW : z_W D A b g u H) {index ci k r : Nat} {ty : FieldType} {fin : Bool} (F : z_FL own index ci k ty fin) (hg : (g r).1 = ci + 4) (hf : zRf ci k = false) (hdg : decode cc pc = .ok (.getfield index, 3))
    (kk : W p l e R s m args below meth c H locs cells slots Q (F0 m (pc + 3) ls (.int (u r k) :: rest))) : W p l e R s m args below meth c H locs cells slots Q (F0 m pc ls (.ref (b + r) :: rest)) :=
  z_get C0 hW F hg hdg (by unfold z_V; rw [hf]; rfl) kk
theorem z_getr (C0 : z_C p c cc s m args own D A) (hW : z_W D A b g u H) {index ci k r o : Nat} {ty : FieldType} {fin : Bool} (F : z_FL own index ci k ty fin) (hg : (g r).1 = ci + 4) (hf : zRf ci k = true) (ho : (g r).2.2 k = some o) (hdg : decode cc pc = .ok (.getfield index, 3))
    (kk : W p l e R s m args below meth c H locs cells slots Q (F0 m (pc + 3) ls (.ref (b + o) :: rest))) : W p l e R s m args below meth c H locs cells slots Q (F0 m pc ls (.ref (b + r) :: rest)) :=
  z_get C0 hW F hg hdg (by unfold z_V; rw [hf, if_pos rfl, ho]; rfl) kk
theorem z_V_set {b k j : Nat} {rf : Nat → Option Nat} {x : Nat → Int32} {v : Int32} (hf : zRf k j = false) (i : Nat) : updV (z_V b k rf x) j (.int v) i = z_V b k rf (upd x j v) i := by
  unfold updV z_V upd
  by_cases e : i = j
  · subst e
    rw [if_pos rfl, hf, if_neg (by decide), if_pos rfl]
  · rw [if_neg e, if_neg e]
theorem z_puti (C0 : z_C p c cc s m args own D A) (hW : z_W D A b g u H) (hS0 : va_S A H0 H locs) {index ci k r : Nat} {ty : FieldType} (F : z_FL own index ci k ty false) (hg : (g r).1 = ci + 4) (hf : zRf ci k = false) {v : Int32} (hn : narrow ty (.int v) = .int v) (hfit : fits ty (.int v) = true) (hdg : decode cc pc = .ok (.putfield index, 3))
    (kk : ∀ (H1 : Heap) (locs1 : List Loc) (u1 : zU), u1 = z_up u r k v → z_W D A b g u1 H1 → va_S A H0 H1 locs1 → W p l e R s m args below meth c H1 locs1 cells slots Q (F0 m (pc + 3) ls rest)) : W p l e R s m args below meth c H locs cells slots Q (F0 m pc ls (.int v :: .ref (b + r) :: rest)) := by
  obtain ⟨hx, hb, hts, hown, hK⟩ := C0
  obtain ⟨C, T, N, ref, ty0, hc, hin, hk, hlink, hsame, hty, hnm, hty2, hfin⟩ := F
  have hap := va_apart (own := own) hts hin ty0 hty hnm hK.1 hc
  obtain ⟨cell, q1, q2, q3, q4⟩ := z_ob hW hg
  rw [z_NF hc] at q4
  obtain ⟨hS, hfc, kC, hkC, hkind⟩ := hK.1.1 ci _ hc
  obtain ⟨cf, kf, fi, f, hi, hsl⟩ := hS k hk
  have hi2 : s.fieldFound? ref (T k).2.1 (T k).2.2.1 = some (cf, kf, fi, f) := by
    rcases hsame with h | h
    · rw [h]; exact hi
    · exact u_same (hts _ h) _ hi
  have hlay := hts _ (hin _ (u_in_lay hk))
  unfold u_lay at hlay
  rw [if_neg (by rw [hfin]; decide)] at hlay
  have hst := (u_facts hfc hkC (u_lays hts hin hk) hi).1
  have h6 := u_store hfc hkC hkind hlay hi ((hty k hk).trans (congrArg some hty2)) hn hfit
  refine W.putK hx hb (f := f) ⟨hown, hts _ hlink, ⟨_, _, _, hi2⟩, hst⟩ (by rw [q2]; exact h6) q1 q3 (by rw [hsl]; exact k2_hasslot (q4 k hk)) rfl rfl hdg fun H' e1 e2 e3 => ?_
  rw [hsl] at e1 ⊢
  refine kk H' _ _ rfl (hW.put ?_ e3) (hS0.put e2 e3 (z_in4 hW (k := ci + 3) hg))
  unfold z_at
  rw [hg]
  show t_OB _ _ _ _ _ _
  rw [z_NF hc]
  exact t_OB.to (V := updV (z_V b ci (g r).2.2 (u r)) k (.int v)) ⟨_, e1, q2, q3, t_set q4 hap hk (.int v)⟩ (fun j _ => z_V_set hf j)
theorem z_iald (C0 : z_C p c cc s m args own D A) (hW : z_W D A b g u H) {r n k : Nat} (hg : (g r).1 = 1) (hn : (g r).2.1 = n) {i : Int32} (hin : z_in i n = true) (hk : i.toNatClampNeg = k) (hdg : decode cc pc = .ok (.iaload, 1))
    (kk : W p l e R s m args below meth c H locs cells slots Q (F0 m (pc + 1) ls (.int (u r k) :: rest))) : W p l e R s m args below meth c H locs cells slots Q (F0 m pc ls (.int i :: .ref (b + r) :: rest)) := by
  subst hk; subst hn
  obtain ⟨hx, hb, hts, hown, hK⟩ := C0
  have h := (hW r).1
  unfold z_at at h
  rw [hg] at h
  have hin := z_in_vp hin
  have hlt : i.toNatClampNeg < (g r).2.1 := Nat.not_le.mp fun q => hin (Or.inr q)
  exact W.iald (v := .int (u r i.toNatClampNeg)) hx hb h ((hK.1.2 0 _ rfl).1 (g r).2.1 (fun j => .int (u r j))) (fun q => by cases q) (by show ¬ (i < 0 ∨ (arrV _ _ _).slots.size ≤ _); rw [arrV_size]; exact hin) (by show (arrV _ _ _).slots[_]? = _; rw [arrV_read _ _ hlt]) rfl rfl hdg kk
theorem z_zald (C0 : z_C p c cc s m args own D A) (hW : z_W D A b g u H) {r n k : Nat} (hg : (g r).1 = 2) (hn : (g r).2.1 = n) {i : Int32} (hin : z_in i n = true) (hk : i.toNatClampNeg = k) (hdg : decode cc pc = .ok (.baload, 1))
    (kk : W p l e R s m args below meth c H locs cells slots Q (F0 m (pc + 1) ls (.int (u r k) :: rest))) : W p l e R s m args below meth c H locs cells slots Q (F0 m pc ls (.int i :: .ref (b + r) :: rest)) := by
  subst hk; subst hn
  obtain ⟨hx, hb, hts, hown, hK⟩ := C0
  have h := (hW r).1
  unfold z_at at h
  rw [hg] at h
  have hin := z_in_vp hin
  have hlt : i.toNatClampNeg < (g r).2.1 := Nat.not_le.mp fun q => hin (Or.inr q)
  exact W.zald (v := .int (u r i.toNatClampNeg)) hx hb h ((hK.1.2 1 _ rfl).1 (g r).2.1 (fun j => .int (u r j))) (fun q => by cases q) (by show ¬ (i < 0 ∨ (arrV _ _ _).slots.size ≤ _); rw [arrV_size]; exact hin) (by show (arrV _ _ _).slots[_]? = _; rw [arrV_read _ _ hlt]) rfl rfl hdg kk
theorem z_arr_set {cA : ClassId} {n k : Nat} {x : Nat → Int32} {v : Int32} : (arrV cA n (fun j => Value.int (x j))).setSlot k (.int v) = arrV cA n (fun j => .int (upd x k v j)) := by
  rw [arrV_store]
  congr 2
  funext q
  by_cases hq : q = k
  · subst hq; simp [updV, upd]
  · simp [updV, upd, hq]
theorem z_iast (C0 : z_C p c cc s m args own D A) (hW : z_W D A b g u H) (hS0 : va_S A H0 H locs) {r n k : Nat} (hg : (g r).1 = 1) (hn : (g r).2.1 = n) {i v : Int32} (hin : z_in i n = true) (hk : i.toNatClampNeg = k) (hdg : decode cc pc = .ok (.iastore, 1))
    (kk : ∀ (H1 : Heap) (locs1 : List Loc) (u1 : zU), u1 = z_up u r k v → z_W D A b g u1 H1 → va_S A H0 H1 locs1 → W p l e R s m args below meth c H1 locs1 cells slots Q (F0 m (pc + 1) ls rest)) : W p l e R s m args below meth c H locs cells slots Q (F0 m pc ls (.int v :: .int i :: .ref (b + r) :: rest)) := by
  subst hk; subst hn
  obtain ⟨hx, hb, hts, hown, hK⟩ := C0
  have h := (hW r).1
  unfold z_at at h
  rw [hg] at h
  have hin := z_in_vp hin
  refine W.iast hx hb h ((hK.1.2 0 _ rfl).1 (g r).2.1 (fun j => .int (u r j))) (fun q => by cases q) (by show ¬ (i < 0 ∨ (arrV _ _ _).slots.size ≤ _); rw [arrV_size]; exact hin) rfl rfl hdg fun H1 e1 z oq => ?_
  refine kk H1 _ _ rfl (hW.put ?_ oq) (hS0.put z oq (z_in4 hW (k := 0) hg))
  unfold z_at
  rw [hg]
  show H1[b + r]? = _
  rw [e1, z_arr_set]
theorem z_zast (C0 : z_C p c cc s m args own D A) (hW : z_W D A b g u H) (hS0 : va_S A H0 H locs) {r n k : Nat} (hg : (g r).1 = 2) (hn : (g r).2.1 = n) {i v : Int32} (hin : z_in i n = true) (hk : i.toNatClampNeg = k) (hnar : narrow .boolean (.int v) = .int v) (hdg : decode cc pc = .ok (.bastore, 1))
    (kk : ∀ (H1 : Heap) (locs1 : List Loc) (u1 : zU), u1 = z_up u r k v → z_W D A b g u1 H1 → va_S A H0 H1 locs1 → W p l e R s m args below meth c H1 locs1 cells slots Q (F0 m (pc + 1) ls rest)) : W p l e R s m args below meth c H locs cells slots Q (F0 m pc ls (.int v :: .int i :: .ref (b + r) :: rest)) := by
  subst hk; subst hn
  obtain ⟨hx, hb, hts, hown, hK⟩ := C0
  have h := (hW r).1
  unfold z_at at h
  rw [hg] at h
  have hin := z_in_vp hin
  refine W.zast hx hb h ((hK.1.2 1 _ rfl).1 (g r).2.1 (fun j => .int (u r j))) (fun q => by cases q) (by show ¬ (i < 0 ∨ (arrV _ _ _).slots.size ≤ _); rw [arrV_size]; exact hin) rfl rfl hdg fun H1 e1 z oq => ?_
  refine kk H1 _ _ rfl (hW.put ?_ oq) (hS0.put z oq (z_in4 hW (k := 1) hg))
  unfold z_at
  rw [hg]
  show H1[b + r]? = _
  rw [e1, hnar, z_arr_set]
theorem z_alen (C0 : z_C p c cc s m args own D A) (hW : z_W D A b g u H) {r n : Nat} (hg : (g r).1 = 1) (hn : (g r).2.1 = n) {v : Int32} (hv : Int32.ofNat n = v) (hdg : decode cc pc = .ok (.arraylength, 1))
    (kk : W p l e R s m args below meth c H locs cells slots Q (F0 m (pc + 1) ls (.int v :: rest))) : W p l e R s m args below meth c H locs cells slots Q (F0 m pc ls (.ref (b + r) :: rest)) := by
  subst hv; subst hn
  obtain ⟨hx, hb, hts, hown, hK⟩ := C0
  have h := (hW r).1
  unfold z_at at h
  rw [hg] at h
  exact W.alen (n := Int32.ofNat (g r).2.1) hx hb h ((hK.1.2 0 _ rfl).1 (g r).2.1 (fun j => .int (u r j))) (by rw [arrV_size] <;> rfl) rfl rfl hdg kk
theorem z_ifeqZ (C0 : z_C p c cc s m args own D A) {x : Bool} {off : Int} {tgt : Nat} (hdg : decode cc pc = .ok (.ifCond .eq off, 3)) (ht : (pc : Int) + off = (tgt : Int)) (kt : x = false → W p l e R s m args below meth c H locs cells slots Q (F0 m tgt ls rest)) (kf : x = true → W p l e R s m args below meth c H locs cells slots Q (F0 m (pc + 3) ls rest)) : W p l e R s m args below meth c H locs cells slots Q (F0 m pc ls (.int (bI x) :: rest)) :=
  lv_if_eq C0.1 C0.2.1 hdg ht (fun h => kt (bI_0.mp h)) (fun h => kf (bI_1.mp h))
theorem z_ifneZ (C0 : z_C p c cc s m args own D A) {x : Bool} {off : Int} {tgt : Nat} (hdg : decode cc pc = .ok (.ifCond .ne off, 3)) (ht : (pc : Int) + off = (tgt : Int)) (kt : x = true → W p l e R s m args below meth c H locs cells slots Q (F0 m tgt ls rest)) (kf : x = false → W p l e R s m args below meth c H locs cells slots Q (F0 m (pc + 3) ls rest)) : W p l e R s m args below meth c H locs cells slots Q (F0 m pc ls (.int (bI x) :: rest)) :=
  lv_if_ne C0.1 C0.2.1 hdg ht (fun h => kt (bI_1.mp h)) (fun h => kf (bI_0.mp h))
end ZR
def z_Pc (D : zD) (A : Nat → Prop) (b : Nat) (g : zG) (as : List Value) (u : zU) : Array Value → State → Prop := fun v U => v = as.toArray ∧ z_K D A U ∧ z_W D A b g u U.heap
def z_Q (D : zD) (A : Nat → Prop) (b : Nat) (g : zG) (v : Option Value) (u' : zU) : Array Value → State → Outcome → State → Prop := fun _ st o t => o = .returned v ∧ z_W D A b g u' t.heap ∧ va_F A st t
/-- a method's contract: called with 'as' at the store u it returns v, and the store is u' -/
def z_M (l : Launch) (D : zD) (A : Nat → Prop) (b : Nat) (g : zG) (y : MethodName) (cc : ByteArray) (maxL : Nat) (ret : Option FieldType) (fr lo : Nat) (as : List Value) (u : zU) (v : Option Value) (u' : zU) : Prop :=
  Met l y (.code y cc maxL ret :: wsA) { frames := fr, cells := 0, slots := 0, locals := lo } (z_Pc D A b g as u) (z_Q D A b g v u') 0 0 A
theorem z_blind {D : zD} {A : Nat → Prop} {b : Nat} {g : zG} {as : List Value} {u : zU} : FrameBlind (z_Pc D A b g as u) := fun a U g mk q => ⟨q.1, q.2.1.calling g mk a, q.2.2⟩
/-- the end that a walk of such a method has to reach -/
abbrev z_End (D : zD) (A : Nat → Prop) (b : Nat) (g : zG) (below : List Frame) (args : Array Value) (s : State) (v : Option Value) (u' : zU) : State → Prop := MQ below (z_Q D A b g v u') args s 0 0 A
theorem z_enter {l : Launch} {D : zD} {A : Nat → Prop} {b : Nat} {g : zG} {y : MethodName} {cc : ByteArray} {maxL : Nat} {ret : Option FieldType} {fr lo : Nat} {as : List Value} {u : zU} {v : Option Value} {u' : zU} (hy : plainName y.cls = true) (hn : (lg_sl as).length ≤ maxL)
    (body : ∀ (p : Program) (e : Env) (s : State) (m : MethodId) (below : List Frame) (meth : Method) (c : Code) (ls : Array Slot), z_C p c cc s m as.toArray y.cls D A → meth.sig.returnType = ret → c.maxLocals = maxL → meth.locks = false → z_W D A b g u s.heap → va_S A s.heap s.heap [] → lv_has ls maxL (lv_args 0 as) →
      W p l e { frames := fr, cells := 0, slots := 0, locals := lo } s m as.toArray below meth c s.heap [] 0 0 (z_End D A b g below as.toArray s v u') (F0 m 0 ls [])) : z_M l D A b g y cc maxL ret fr lo as u v u' := by
  unfold z_M
  refine Met.ofW (cc := cc) (maxL := maxL) (ret := ret) hy rfl ?_
  intro p e s m vals below meth c s₁ B hml hv
  obtain ⟨rfl, hK, hW⟩ := hv
  have hts : ∀ w ∈ Cond.code y cc maxL ret :: wsA, w.before as.toArray s = true := atoms_spec (ws := Cond.code y cc maxL ret :: wsA) B.pre
  have hown : s.vm.findClass y.cls = some m.cls := findClass_of_methodNamed B.named
  have hl := lv_entry as (n := maxL) hn
  rw [lg_entry_eq]
  exact body p e s m below meth c _ ⟨B.exec, B.bytes, fun w h => hts w (List.mem_cons_of_mem _ h), hown, hK⟩ B.returns hml B.notSynchronized hW va_S.rf hl
/-- a virtual call's row: the class own's entry 'index' is the method y of the class ci, with n arguments -/
def z_YV (own : String) (index : Nat) (y : MethodName) (cc : ByteArray) (maxL : Nat) (ret : Option FieldType) (ci n : Nat) : Prop :=
  GoodIn wsA (wsV own index y.cls y (.code y cc maxL ret :: wsA)) ∧ (y.cls ≠ "java/lang/invoke/MethodHandle" ∧ y.cls ≠ "java/lang/invoke/VarHandle" ∧ (parseMethodDescriptor y.desc).map (fun d => d.parameters.length) = some n) ∧ ∃ (T : u_T) (N : Nat), vwCl[ci]? = some (y.cls, T, N)
theorem z_YV.of {own : String} {index : Nat} {y : MethodName} {cc : ByteArray} {maxL : Nat} {ret : Option FieldType} {ci n : Nat} {T : u_T} {N : Nat} (h1 : ∀ w ∈ [Cond.methodLink own index y, .instanceMethod y, .selects y.cls y y, .initialized y.cls, .code y cc maxL ret], w ∈ wsA)
    (hd : y.cls ≠ "java/lang/invoke/MethodHandle" ∧ y.cls ≠ "java/lang/invoke/VarHandle" ∧ (parseMethodDescriptor y.desc).map (fun d => d.parameters.length) = some n) (hc : vwCl[ci]? = some (y.cls, T, N)) : z_YV own index y cc maxL ret ci n := by
  refine ⟨fun w hw => wsA_good w ?_, hd, T, N, hc⟩
  unfold wsV at hw
  rcases List.mem_append.mp hw with h | h
  · exact h1 w (by simp only [List.mem_cons, List.not_mem_nil, or_false] at h ⊢; rcases h with h | h | h | h <;> simp [h])
  · rcases List.mem_cons.mp h with h | h
    · exact h1 w (by simp [h])
    · exact h
def z_YS (own : String) (index : Nat) (y : MethodName) (cc : ByteArray) (maxL : Nat) (ret : Option FieldType) (n : Nat) : Prop :=
  GoodIn wsA (va_wsS own index y (.code y cc maxL ret :: wsA)) ∧ (y.cls ≠ "java/lang/invoke/MethodHandle" ∧ y.cls ≠ "java/lang/invoke/VarHandle" ∧ (parseMethodDescriptor y.desc).map (fun d => d.parameters.length) = some n)
theorem z_YS.of {own : String} {index : Nat} {y : MethodName} {cc : ByteArray} {maxL : Nat} {ret : Option FieldType} {n : Nat} (h1 : ∀ w ∈ [Cond.methodLink own index y, .static y, .initialized y.cls, .code y cc maxL ret], w ∈ wsA)
    (hd : y.cls ≠ "java/lang/invoke/MethodHandle" ∧ y.cls ≠ "java/lang/invoke/VarHandle" ∧ (parseMethodDescriptor y.desc).map (fun d => d.parameters.length) = some n) : z_YS own index y cc maxL ret n := by
  refine ⟨fun w hw => wsA_good w ?_, hd⟩
  unfold va_wsS at hw
  rcases List.mem_append.mp hw with h | h
  · exact h1 w (by simp only [List.mem_cons, List.not_mem_nil, or_false] at h ⊢; rcases h with h | h | h <;> simp [h])
  · rcases List.mem_cons.mp h with h | h
    · exact h1 w (by simp [h])
    · exact h
section ZC
variable {p : Program} {l : Launch} {e : Env} {R : Room} {s : State} {m : MethodId} {args : Array Value} {below : List Frame} {meth : Method} {c : Code} {H : Heap} {locs : List Loc} {Q : State → Prop}
variable {cc : ByteArray} {pc : Nat} {ls : Array Slot} {rest : List Value} {D : zD} {A : Nat → Prop} {b : Nat} {g : zG} {u u' : zU} {own : String} {st : List Value}
variable {y : MethodName} {cy : ByteArray} {maxL nL n index fr lo ci r0 : Nat} {ret : Option FieldType} {As : List Value} {v : Option Value}
theorem z_back {a : Array Value} (hr : va_Run p l e R s m args below meth c H locs 0 0 0 0 (F0 m pc ls st) rest (z_Q D A b g v u' a) A) (hS : va_S A s.heap H locs)
    (kk : ∀ (H1 : Heap) (locs1 : List Loc), z_W D A b g u' H1 → va_S A s.heap H1 locs1 → W p l e R s m args below meth c H1 locs1 0 0 Q (F0 m (pc + 3) ls (v.toList ++ rest))) : W p l e R s m args below meth c H locs 0 0 Q (F0 m pc ls st) := by
  intro T hT X
  obtain ⟨v', st₀, t, T', L, h0, X', hL, e1, e2, ⟨hv, hw, hz, hk⟩, go⟩ := hr T hT X
  cases hv
  rw [h0] at hz hk
  obtain ⟨t2, a1, b1⟩ := kk T'.heap (locs ++ L) (by rw [e1]; exact hw) ⟨Nat.le_trans hS.1 (by rw [e1]; exact hz), fun q h1 h2 => by rw [e1, hk q (Nat.lt_of_lt_of_le h1 hS.1) h2]; exact hS.2.1 q h1 h2, fun q hq => by
      rcases List.mem_append.mp hq with h | h
      · exact hS.2.2 q h
      · exact hL q h⟩ T' rfl X'
  exact ⟨t2, go t2 a1, b1⟩
theorem z_cv (C0 : z_C p c cc s m args own D A) (hml : c.maxLocals = nL) (hl : ls.size = nL) (hW : z_W D A b g u H) (hS : va_S A s.heap H locs) (hM : z_M l D A b g y cy maxL ret fr lo (.ref (b + r0) :: As) u v u') (Y : z_YV own index y cy maxL ret ci n) (hg : (g r0).1 = ci + 4)
    (hR : fr + 1 ≤ R.frames ∧ 8 + (maxL + 11) + lo ≤ R.locals) (hst : st = As.reverse ++ .ref (b + r0) :: rest) (hn : As.length = n) (hw : (rest.map fun v => v.category).sum ≤ 8) (hdg : decode cc pc = .ok (.invokevirtual index, 3))
    (kk : ∀ (H1 : Heap) (locs1 : List Loc), z_W D A b g u' H1 → va_S A s.heap H1 locs1 → W p l e R s m args below meth c H1 locs1 0 0 Q (F0 m (pc + 3) ls (v.toList ++ rest))) : W p l e R s m args below meth c H locs 0 0 Q (F0 m pc ls st) := by
  obtain ⟨hx, hb, hts, hown, hK⟩ := C0
  obtain ⟨hG, hd, T, N, hc⟩ := Y
  obtain ⟨cell, q1, q2, q3, -⟩ := z_ob hW hg
  obtain ⟨-, hfc, -⟩ := hK.1.1 ci _ hc
  exact z_back (va_runV (C := y.cls) (bytes := cy) (maxL := maxL) (ret := ret) (n := n) ⟨hx, hb, hml, hown, hts⟩ hM (cwV n hts hG rfl rfl rfl ⟨rfl, hd⟩ hR) ⟨z_blind, ⟨cell, q1, by rw [q3]; rfl, by rw [q2]; exact hfc⟩, fun U hU hW2 => ⟨rfl, hK.at hW2 hU hS, by rw [hU]; exact hW⟩⟩ rfl hn hl hst (lv_room hw) hdg ⟨Nat.zero_le _, Nat.zero_le _⟩) hS kk
theorem z_cs (C0 : z_C p c cc s m args own D A) (hml : c.maxLocals = nL) (hl : ls.size = nL) (hW : z_W D A b g u H) (hS : va_S A s.heap H locs) (hM : z_M l D A b g y cy maxL ret fr lo As u v u') (Y : z_YS own index y cy maxL ret n)
    (hR : fr + 1 ≤ R.frames ∧ 8 + (maxL + 11) + lo ≤ R.locals) (hst : st = As.reverse ++ rest) (hn : As.length = n) (hw : (rest.map fun v => v.category).sum ≤ 8) (hdg : decode cc pc = .ok (.invokestatic index, 3))
    (kk : ∀ (H1 : Heap) (locs1 : List Loc), z_W D A b g u' H1 → va_S A s.heap H1 locs1 → W p l e R s m args below meth c H1 locs1 0 0 Q (F0 m (pc + 3) ls (v.toList ++ rest))) : W p l e R s m args below meth c H locs 0 0 Q (F0 m pc ls st) := by
  obtain ⟨hx, hb, hts, hown, hK⟩ := C0
  obtain ⟨hG, hd⟩ := Y
  exact z_back (va_runS (bytes := cy) (maxL := maxL) (ret := ret) (n := n) ⟨hx, hb, hml, hown, hts⟩ hM (va_cwS n hts hG rfl rfl rfl hd hR) ⟨z_blind, fun U hU hW2 => ⟨rfl, hK.at hW2 hU hS, by rw [hU]; exact hW⟩⟩ rfl hn hl hst (lv_room hw) hdg ⟨Nat.zero_le _, Nat.zero_le _⟩) hS kk
theorem z_iret (C0 : z_C p c cc s m args own D A) (hr : meth.sig.returnType = some .int) (hlk : meth.locks = false) (hW : z_W D A b g u H) (hS : va_S A s.heap H locs) {x : Int32} (hdg : decode cc pc = .ok (.ireturn, 1)) : W p l e R s m args below meth c H locs 0 0 (z_End D A b g below args s (some (.int x)) u) (F0 m pc ls [.int x]) :=
  W.iret (v := x) C0.1 C0.2.1 hr (fun t ht _ => ⟨rfl, by rw [ht]; exact hW, hS.F ht⟩) hS.2.2 hdg hlk
theorem z_zret (C0 : z_C p c cc s m args own D A) (hr : meth.sig.returnType = some .boolean) (hlk : meth.locks = false) (hW : z_W D A b g u H) (hS : va_S A s.heap H locs) {x : Bool} (hdg : decode cc pc = .ok (.ireturn, 1)) : W p l e R s m args below meth c H locs 0 0 (z_End D A b g below args s (some (.int (bI x))) u) (F0 m pc ls [.int (bI x)]) :=
  W.zret (v := bI x) C0.1 C0.2.1 hr (bI_nar x) (fun t ht _ => ⟨rfl, by rw [ht]; exact hW, hS.F ht⟩) hS.2.2 hdg hlk
theorem z_vret (C0 : z_C p c cc s m args own D A) (hr : meth.sig.returnType = none) (hlk : meth.locks = false) (hW : z_W D A b g u H) (hS : va_S A s.heap H locs) (hdg : decode cc pc = .ok (.return_, 1)) : W p l e R s m args below meth c H locs 0 0 (z_End D A b g below args s none u) (F0 m pc ls []) :=
  W.vret C0.1 C0.2.1 hr (fun t ht _ => ⟨rfl, by rw [ht]; exact hW, hS.F ht⟩) hS.2.2 hdg hlk
end ZC
def z_let {α β : Type} (x : α) (f : α → β) : β := f x
def z_let2 {α β γ : Type} (x : α × β) (f : α → β → γ) : γ := f x.1 x.2
def z_b2 {α β γ : Type} (x : Option (α × β)) (f : α → β → Option γ) : Option γ := x.bind (fun q => f q.1 q.2)
theorem z_ly {α β : Type} {x y : α} {f : α → β} {r : β} (h : z_let x f = r) (e : y = x) : f y = r := by subst e; exact h
theorem z_lz {α β : Type} {x y : α} {f : α → β} {r : β} (h : z_let x f = r) (e : x = y) : f y = r := by subst e; exact h
theorem z_lz2 {α β γ : Type} {x : α × β} {y : α} {z : β} {f : α → β → γ} {r : γ} (h : z_let2 x f = r) (e : x = (y, z)) : f y z = r := by subst e; exact h
theorem z_bd2 {α β γ : Type} {a : Option (α × β)} {f : α → β → Option γ} {x : γ} (h : z_b2 a f = some x) : ∃ y z, a = some (y, z) ∧ f y z = some x := by
  match a, h with
  | none, h => cases h
  | some (y, z), h => exact ⟨y, z, rfl, h⟩
theorem z_t {α : Type} {c : Prop} [Decidable c] {a b x : α} (h : (if c then a else b) = x) (hc : c) : a = x := by rw [if_pos hc] at h; exact h
theorem z_f {α : Type} {c : Prop} [Decidable c] {a b x : α} (h : (if c then a else b) = x) (hc : ¬ c) : b = x := by rw [if_neg hc] at h; exact h
theorem z_ff {α : Type} {c : Bool} {a b x : α} (h : (if c = true then a else b) = x) (hc : c = false) : b = x := by subst hc; exact h
def z_b01 (v : Int32) : Option Bool := if v = 0 then some false else if v = 1 then some true else none
theorem z_b01_eq {v : Int32} {t : Bool} (h : z_b01 v = some t) : v = bI t := by
  unfold z_b01 at h
  by_cases h0 : v = 0
  · rw [if_pos h0] at h; cases h; rw [h0]; rfl
  · rw [if_neg h0] at h
    by_cases h1 : v = 1
    · rw [if_pos h1] at h; cases h; rw [h1]; rfl
    · rw [if_neg h1] at h; cases h
abbrev z_rem (x y : Int32) : Int32 := x - x / y * y
abbrev z_ushr (x y : Int32) : Int32 := (x.toUInt32 >>> (y.toUInt32 &&& Int32.toUInt32 31)).toInt32
section ZT
variable {p : Program} {l : Launch} {e : Env} {R : Room} {s : State} {m : MethodId} {args : Array Value} {below : List Frame} {meth : Method} {c : Code} {H : Heap} {locs : List Loc} {cells slots : Nat} {Q : State → Prop} {pc : Nat} {ls : Array Slot} {rest : List Value}
theorem z_as {x y : Int32} (h : x = y) (k : W p l e R s m args below meth c H locs cells slots Q (F0 m pc ls (.int y :: rest))) : W p l e R s m args below meth c H locs cells slots Q (F0 m pc ls (.int x :: rest)) := by subst h; exact k
end ZT
section ZCI
variable {p : Program} {l : Launch} {e : Env} {R : Room} {s : State} {m : MethodId} {args : Array Value} {below : List Frame} {meth : Method} {c : Code} {H : Heap} {locs : List Loc} {Q : State → Prop}
variable {cc : ByteArray} {pc : Nat} {ls : Array Slot} {rest : List Value} {D : zD} {A : Nat → Prop} {b : Nat} {g : zG} {u u' : zU} {own : String} {st : List Value}
variable {y : MethodName} {cy : ByteArray} {maxL nL n index fr lo ci r0 : Nat} {ret : Option FieldType} {As : List Value} {x : Int32}
theorem z_cvi (C0 : z_C p c cc s m args own D A) (hml : c.maxLocals = nL) (hl : ls.size = nL) (hW : z_W D A b g u H) (hS : va_S A s.heap H locs) (hM : z_M l D A b g y cy maxL ret fr lo (.ref (b + r0) :: As) u (some (.int x)) u') (Y : z_YV own index y cy maxL ret ci n) (hg : (g r0).1 = ci + 4)
    (hR : fr + 1 ≤ R.frames ∧ 8 + (maxL + 11) + lo ≤ R.locals) (hst : st = As.reverse ++ .ref (b + r0) :: rest) (hn : As.length = n) (hw : (rest.map fun v => v.category).sum ≤ 8) (hdg : decode cc pc = .ok (.invokevirtual index, 3))
    (kk : ∀ (H1 : Heap) (locs1 : List Loc), z_W D A b g u' H1 → va_S A s.heap H1 locs1 → W p l e R s m args below meth c H1 locs1 0 0 Q (F0 m (pc + 3) ls (.int x :: rest))) : W p l e R s m args below meth c H locs 0 0 Q (F0 m pc ls st) := z_cv C0 hml hl hW hS hM Y hg hR hst hn hw hdg kk
theorem z_cvv (C0 : z_C p c cc s m args own D A) (hml : c.maxLocals = nL) (hl : ls.size = nL) (hW : z_W D A b g u H) (hS : va_S A s.heap H locs) (hM : z_M l D A b g y cy maxL ret fr lo (.ref (b + r0) :: As) u none u') (Y : z_YV own index y cy maxL ret ci n) (hg : (g r0).1 = ci + 4)
    (hR : fr + 1 ≤ R.frames ∧ 8 + (maxL + 11) + lo ≤ R.locals) (hst : st = As.reverse ++ .ref (b + r0) :: rest) (hn : As.length = n) (hw : (rest.map fun v => v.category).sum ≤ 8) (hdg : decode cc pc = .ok (.invokevirtual index, 3))
    (kk : ∀ (H1 : Heap) (locs1 : List Loc), z_W D A b g u' H1 → va_S A s.heap H1 locs1 → W p l e R s m args below meth c H1 locs1 0 0 Q (F0 m (pc + 3) ls rest)) : W p l e R s m args below meth c H locs 0 0 Q (F0 m pc ls st) := z_cv C0 hml hl hW hS hM Y hg hR hst hn hw hdg kk
theorem z_csi (C0 : z_C p c cc s m args own D A) (hml : c.maxLocals = nL) (hl : ls.size = nL) (hW : z_W D A b g u H) (hS : va_S A s.heap H locs) (hM : z_M l D A b g y cy maxL ret fr lo As u (some (.int x)) u') (Y : z_YS own index y cy maxL ret n)
    (hR : fr + 1 ≤ R.frames ∧ 8 + (maxL + 11) + lo ≤ R.locals) (hst : st = As.reverse ++ rest) (hn : As.length = n) (hw : (rest.map fun v => v.category).sum ≤ 8) (hdg : decode cc pc = .ok (.invokestatic index, 3))
    (kk : ∀ (H1 : Heap) (locs1 : List Loc), z_W D A b g u' H1 → va_S A s.heap H1 locs1 → W p l e R s m args below meth c H1 locs1 0 0 Q (F0 m (pc + 3) ls (.int x :: rest))) : W p l e R s m args below meth c H locs 0 0 Q (F0 m pc ls st) := z_cs C0 hml hl hW hS hM Y hR hst hn hw hdg kk
theorem z_csv (C0 : z_C p c cc s m args own D A) (hml : c.maxLocals = nL) (hl : ls.size = nL) (hW : z_W D A b g u H) (hS : va_S A s.heap H locs) (hM : z_M l D A b g y cy maxL ret fr lo As u none u') (Y : z_YS own index y cy maxL ret n)
    (hR : fr + 1 ≤ R.frames ∧ 8 + (maxL + 11) + lo ≤ R.locals) (hst : st = As.reverse ++ rest) (hn : As.length = n) (hw : (rest.map fun v => v.category).sum ≤ 8) (hdg : decode cc pc = .ok (.invokestatic index, 3))
    (kk : ∀ (H1 : Heap) (locs1 : List Loc), z_W D A b g u' H1 → va_S A s.heap H1 locs1 → W p l e R s m args below meth c H1 locs1 0 0 Q (F0 m (pc + 3) ls rest)) : W p l e R s m args below meth c H locs 0 0 Q (F0 m pc ls st) := z_cs C0 hml hl hW hS hM Y hR hst hn hw hdg kk
end ZCI
/-- the reference's cells: the object at the region 0, its nine arrays behind it in the order of their making -/
def gM : zG := fun r => match r with
  | 0 => (14, 0, fun j => match j with
    | 1 => some 1
    | 2 => some 2
    | 4 => some 3
    | 5 => some 4
    | 7 => some 5
    | 14 => some 6
    | 20 => some 7
    | 21 => some 8
    | 22 => some 9
    | _ => none)
  | 1 => (1, 705, fun _ => none)
  | 2 => (1, 705, fun _ => none)
  | 3 => (1, 305, fun _ => none)
  | 4 => (1, 3660, fun _ => none)
  | 5 => (1, 400, fun _ => none)
  | 6 => (1, 7, fun _ => none)
  | 7 => (1, 8, fun _ => none)
  | 8 => (1, 8, fun _ => none)
  | 9 => (2, 80, fun _ => none)
  | _ => (0, 0, fun _ => none)
