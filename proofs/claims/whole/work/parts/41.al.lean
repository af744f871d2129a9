/-! MAKING: the world grows by a region; constructors -/
def zal (g : zG) (n : Nat) (q : zQ) : zG := fun r => if r = n then q else g r
def zst (u : zU) (n : Nat) (f : Nat → Int32) : zU := fun r => if r = n then f else u r
abbrev zNo : Nat → Option Nat := fun _ => none
abbrev zO0 : Nat → Int32 := fun _ => 0
theorem zal_e (g : zG) (n : Nat) (q : zQ) : zal g n q n = q := if_pos rfl
theorem zal_n (g : zG) {n r : Nat} (q : zQ) (h : r ≠ n) : zal g n q r = g r := if_neg h
theorem zgs_1 (g : zG) (r k o r' : Nat) : (zgs g r k o r').1 = (g r').1 := by
  unfold zgs
  by_cases h : r' = r
  · rw [if_pos h, h]
  · rw [if_neg h]
theorem zgs_2 (g : zG) (r k o r' : Nat) : (zgs g r k o r').2.1 = (g r').2.1 := by
  unfold zgs
  by_cases h : r' = r
  · rw [if_pos h, h]
  · rw [if_neg h]
theorem zgs_e (g : zG) (r k o : Nat) : (zgs g r k o r).2.2 k = some o := by
  unfold zgs
  rw [if_pos rfl]
  exact if_pos rfl
theorem zgs_n (g : zG) (r : Nat) {k k' : Nat} (o r' : Nat) (h : k' ≠ k) : (zgs g r k o r').2.2 k' = (g r').2.2 k' := by
  unfold zgs
  by_cases h1 : r' = r
  · rw [if_pos h1, h1]
    exact if_neg h
  · rw [if_neg h1]
theorem zgs_r (g : zG) {r r' : Nat} (k o k' : Nat) (h : r' ≠ r) : (zgs g r k o r').2.2 k' = (g r').2.2 k' := by
  unfold zgs
  rw [if_neg h]
theorem z_at.lt {D : zD} {b : Nat} {q : zQ} {x : Nat → Int32} {a : Nat} {H : Heap} (h : z_at D b q x a H) (hq : q.1 ≠ 0) : a < H.size := by
  obtain ⟨k, n, rf⟩ := q
  match k, h, hq with
  | 0, _, hq => exact absurd rfl hq
  | 1, h, _ => exact (Array.getElem?_eq_some_iff.mp h).1
  | 2, h, _ => exact (Array.getElem?_eq_some_iff.mp h).1
  | 3, h, _ => exact (Array.getElem?_eq_some_iff.mp h).1
  | k + 4, h, _ => obtain ⟨cell, h1, -⟩ := h; exact (Array.getElem?_eq_some_iff.mp h1).1
theorem z_W.al {D : zD} {A : Nat → Prop} {b n : Nat} {g : zG} {u : zU} {H H1 : Heap} (hW : z_W D A b g u H) (hZ : H.size = b + n) (oq : ∀ q : Nat, q < H.size → H1[q]? = H[q]?) {q : zQ} {f : Nat → Int32} (h1 : z_at D b q f (b + n) H1) (hA : A (b + n)) : z_W D A b (zal g n q) (zst u n f) H1 := by
  intro r
  unfold zal zst
  by_cases e : r = n
  · subst e
    rw [if_pos rfl, if_pos rfl]
    exact ⟨h1, fun _ => hA⟩
  · rw [if_neg e, if_neg e]
    refine ⟨?_, (hW r).2⟩
    by_cases h0 : (g r).1 = 0
    · unfold z_at
      rw [h0]
      exact trivial
    · exact (hW r).1.kept (oq _ ((hW r).1.lt h0))
theorem z_W.fgt {D : zD} {A : Nat → Prop} {b : Nat} {g g' : zG} {u u' : zU} {H : Heap} (hW : z_W D A b g' u' H) (h : ∀ r, (g r).1 = 0 ∨ (g' r = g r ∧ u' r = u r)) : z_W D A b g u H := by
  intro r
  rcases h r with h | ⟨h1, h2⟩
  · refine ⟨?_, fun q => absurd h q⟩
    unfold z_at
    rw [h]
    exact trivial
  · rw [← h1, ← h2]
    exact hW r
theorem z_W.ltn {D : zD} {A : Nat → Prop} {b n : Nat} {g : zG} {u : zU} {H : Heap} (hW : z_W D A b g u H) (hZ : H.size = b + n) {r : Nat} (h : (g r).1 ≠ 0) : r < n := by
  have := (hW r).1.lt h
  omega
/-- what the making of arrays and their copies ask of the tables besides -/
def z_K2 (U : State) : Prop := va_AO "TopWheel$Keep" U ∧ va_Nw (.castable "[I" "java/lang/Cloneable") U
theorem z_K2.at {s U : State} (h : z_K2 s) (hW : s.WarmedH U.vm) : z_K2 U := ⟨h.1.moved hW.alike, h.2.warmC hW⟩
/-- a making's row: the class own's entry 'index' is the class ci -/
def z_NW (own : String) (index ci N : Nat) : Prop := ∃ (C : String) (T : u_T) (ty : Nat → FieldType), vwCl[ci]? = some (C, T, N) ∧ (∀ w ∈ u_ws C T N, w ∈ wsA) ∧ (∀ k, k < N → parseFieldDescriptor (T k).2.2.1 = some (ty k)) ∧ Cond.classLink own index C ∈ wsA ∧ Cond.instantiable C N ∈ wsA ∧ Cond.initialized C ∈ wsA ∧ ∀ j, j < N → defaultValue (ty j) = if zRf ci j = true then .null else .int 0
def z_OI (own : String) (index : Nat) : Prop := Cond.methodLink own index objectInit ∈ wsA ∧ Cond.instanceMethod objectInit ∈ wsA ∧ Cond.code objectInit { data := #[177] } 1 none ∈ wsA
section ZAL
variable {p : Program} {l : Launch} {e : Env} {R : Room} {s : State} {m : MethodId} {args : Array Value} {below : List Frame} {meth : Method} {c : Code} {H : Heap} {locs : List Loc} {cells slots : Nat} {Q : State → Prop}
variable {cc : ByteArray} {pc n : Nat} {ls : Array Slot} {rest : List Value} {D : zD} {A : Nat → Prop} {b : Nat} {g : zG} {u : zU} {own : String} {H0 : Heap}
theorem z_newI (C0 : z_C p c cc s m args own D A) (hW : z_W D A b g u H) (hS : va_S A H0 H locs) (hA : ∀ q, H0.size ≤ q → A q) (hZ : H.size = b + n) (wa : Cond.arrayClass .int ∈ wsA) {x : Int32} {N : Nat} (hN : x.toNatClampNeg = N ∧ ¬ x < 0 ∧ N ≤ 100000) (hR : cells + 1 ≤ R.cells ∧ slots + N ≤ R.slots) (hdg : decode cc pc = .ok (.newarray .int, 2))
    (kk : ∀ H1 : Heap, z_W D A b (zal g n (1, N, zNo)) (zst u n zO0) H1 → va_S A H0 H1 locs → H1.size = b + (n + 1) → W p l e R s m args below meth c H1 locs (cells + 1) (slots + N) Q (F0 m (pc + 2) ls (.ref (b + n) :: rest))) : W p l e R s m args below meth c H locs cells slots Q (F0 m pc ls (.int x :: rest)) := by
  obtain ⟨hx, hb, hts, hown, hK⟩ := C0
  refine va_newaK (atype := .int) (g := F0 m pc ls (.int x :: rest)) hx hb (hts _ wa) rfl hdg rfl hN.2.1 hN.1 (by show N * 4 ≤ _; omega) hR.1 hR.2 hZ fun H1 cA e1 z1 o1 hAr hNm => ?_
  have hcA : cA = D.2.1 := Option.some.inj (hNm.symm.trans (hK.1.2 0 _ rfl).2)
  subst hcA
  refine kk H1 (hW.al hZ (fun q hq => o1 q (by omega)) ?_ (hA _ (by rw [← hZ]; exact hS.1))) ⟨Nat.le_trans hS.1 (by omega), fun q h1 h2 => (o1 q (by have := hS.1; omega)).trans (hS.2.1 q h1 h2), hS.2.2⟩ (by omega)
  exact e1
theorem z_newZ (C0 : z_C p c cc s m args own D A) (hW : z_W D A b g u H) (hS : va_S A H0 H locs) (hA : ∀ q, H0.size ≤ q → A q) (hZ : H.size = b + n) (wa : Cond.arrayClass .boolean ∈ wsA) {x : Int32} {N : Nat} (hN : x.toNatClampNeg = N ∧ ¬ x < 0 ∧ N ≤ 100000) (hR : cells + 1 ≤ R.cells ∧ slots + N ≤ R.slots) (hdg : decode cc pc = .ok (.newarray .boolean, 2))
    (kk : ∀ H1 : Heap, z_W D A b (zal g n (2, N, zNo)) (zst u n zO0) H1 → va_S A H0 H1 locs → H1.size = b + (n + 1) → W p l e R s m args below meth c H1 locs (cells + 1) (slots + N) Q (F0 m (pc + 2) ls (.ref (b + n) :: rest))) : W p l e R s m args below meth c H locs cells slots Q (F0 m pc ls (.int x :: rest)) := by
  obtain ⟨hx, hb, hts, hown, hK⟩ := C0
  refine va_newaK (atype := .boolean) (g := F0 m pc ls (.int x :: rest)) hx hb (hts _ wa) rfl hdg rfl hN.2.1 hN.1 (by show N * 1 ≤ _; omega) hR.1 hR.2 hZ fun H1 cA e1 z1 o1 hAr hNm => ?_
  have hcA : cA = D.2.2.1 := Option.some.inj (hNm.symm.trans (hK.1.2 1 _ rfl).2)
  subst hcA
  refine kk H1 (hW.al hZ (fun q hq => o1 q (by omega)) ?_ (hA _ (by rw [← hZ]; exact hS.1))) ⟨Nat.le_trans hS.1 (by omega), fun q h1 h2 => (o1 q (by have := hS.1; omega)).trans (hS.2.1 q h1 h2), hS.2.2⟩ (by omega)
  exact e1
theorem z_newK (C0 : z_C p c cc s m args own D A) (hK2 : z_K2 s) (hW : z_W D A b g u H) (hS : va_S A H0 H locs) (hA : ∀ q, H0.size ≤ q → A q) (hZ : H.size = b + n) {index : Nat} (wl : Cond.classLink own index "TopWheel$Keep" ∈ wsA) {x : Int32} {N : Nat} (hN : x.toNatClampNeg = N ∧ ¬ x < 0 ∧ N ≤ 100000) (hR : cells + 1 ≤ R.cells ∧ slots + N ≤ R.slots) (hdg : decode cc pc = .ok (.anewarray index, 3))
    (kk : ∀ H1 : Heap, z_W D A b (zal g n (3, N, zNo)) (zst u n zO0) H1 → va_S A H0 H1 locs → H1.size = b + (n + 1) → W p l e R s m args below meth c H1 locs (cells + 1) (slots + N) Q (F0 m (pc + 3) ls (.ref (b + n) :: rest))) : W p l e R s m args below meth c H locs cells slots Q (F0 m pc ls (.int x :: rest)) := by
  obtain ⟨hx, hb, hts, hown, hK⟩ := C0
  obtain ⟨hN, hn0, hn1⟩ := hN
  subst hN
  refine W.anew (g := F0 m pc ls (.int x :: rest)) hx hb hown (hts _ wl) (va_AO.use hK2.1) rfl hdg rfl hn0 (by omega) hR.1 hR.2 fun cA kA comp f1 f2 f3 f4 => ?_
  have hcA : cA = D.2.2.2.1 := by
    obtain ⟨_, _, -, -, -, h⟩ := (hK.1.2 2 _ rfl).2
    exact Option.some.inj (f1.symm.trans h)
  subst hcA
  generalize hH1 : H.push ({ cls := D.2.2.2.1, slots := Array.replicate x.toNatClampNeg .null, vm := .none } : Cell) = H1
  have z1 : H1.size = H.size + 1 := by rw [← hH1, Array.size_push]
  have e1 : H1[H.size]? = some (arrV D.2.2.2.1 x.toNatClampNeg (fun _ => .null)) := by rw [← hH1, Array.getElem?_push_size, ← arrV_new]
  have o1 : ∀ q : Nat, q < H.size → H1[q]? = H[q]? := fun q hq => by rw [← hH1, Array.getElem?_push, if_neg (Nat.ne_of_lt hq)]
  have hk := kk H1 (hW.al hZ o1 (by rw [hZ] at e1; exact e1) (hA _ (by rw [← hZ]; exact hS.1))) ⟨Nat.le_trans hS.1 (by omega), fun q h1 h2 => (o1 q (Nat.lt_of_lt_of_le h1 hS.1)).trans (hS.2.1 q h1 h2), hS.2.2⟩ (by omega)
  rw [hZ]
  exact hk
theorem z_newO (C0 : z_C p c cc s m args own D A) (hW : z_W D A b g u H) (hS : va_S A H0 H locs) (hA : ∀ q, H0.size ≤ q → A q) (hZ : H.size = b + n) {index ci N : Nat} (nw : z_NW own index ci N) (hR : cells + 1 ≤ R.cells ∧ slots + N ≤ R.slots) (hdg : decode cc pc = .ok (.new index, 3))
    (kk : ∀ H1 : Heap, z_W D A b (zal g n (ci + 4, 0, zNo)) (zst u n zO0) H1 → va_S A H0 H1 locs → H1.size = b + (n + 1) → W p l e R s m args below meth c H1 locs (cells + 1) (slots + N) Q (F0 m (pc + 3) ls (.ref (b + n) :: rest))) : W p l e R s m args below meth c H locs cells slots Q (F0 m pc ls rest) := by
  obtain ⟨hx, hb, hts, hown, hK⟩ := C0
  obtain ⟨C, T, ty, hc, hin, hty, wl, wi, wn, hdf⟩ := nw
  have hKn := hK.1.1 ci _ hc
  refine W.newcK (g := F0 m pc ls rest) hx hb hown (hts _ wl) (hts _ wi) (hts _ wn) rfl hdg hR.1 hR.2 hKn.2.1 hZ fun H1 kC hkC e1 z1 o1 => ?_
  refine kk H1 (hW.al hZ (fun q hq => o1 q (by omega)) ?_ (hA _ (by rw [← hZ]; exact hS.1))) ⟨Nat.le_trans hS.1 (by omega), fun q h1 h2 => (o1 q (by have := hS.1; omega)).trans (hS.2.1 q h1 h2), hS.2.2⟩ (by omega)
  show t_OB _ _ _ _ _ _
  rw [z_NF hc]
  refine (u_born ty hts hin hKn hkC e1 hty).to (fun j hj => ?_)
  rw [hdf j hj]
  unfold z_V
  rfl
theorem z_oi (C0 : z_C p c cc s m args own D A) (hml : c.maxLocals = ls.size) {index a : Nat} (oi : z_OI own index) (hdg : decode cc pc = .ok (.invokespecial index, 3)) (hR : 1 ≤ R.frames ∧ (rest.map fun v => v.category).sum + 12 ≤ R.locals)
    (kk : W p l e R s m args below meth c H locs cells slots Q (F0 m (pc + 3) ls rest)) : W p l e R s m args below meth c H locs cells slots Q (F0 m pc ls (.ref a :: rest)) :=
  W.objInit (g := F0 m pc ls (.ref a :: rest)) C0.1 C0.2.1 C0.2.2.2.1 (C0.2.2.1 _ oi.1) (C0.2.2.1 _ oi.2.1) (C0.2.2.1 _ oi.2.2) rfl hml.symm rfl hdg hR.1 (by show 2 * 0 + _ + 12 ≤ _; omega) kk
/-- a final field's row: declared in the class itself -/
def z_FD (own : String) (ci k : Nat) : Prop := ∃ (C : String) (T : u_T) (N : Nat), vwCl[ci]? = some (C, T, N) ∧ (T k).1 = own
theorem z_putF0 (C0 : z_C p c cc s m args own D A) (hin0 : meth.name = "<init>") (hW : z_W D A b g u H) {index ci k r : Nat} {ty : FieldType} (F : z_FL own index ci k ty true) (fd : z_FD own ci k) (hg : (g r).1 = ci + 4) {v : Value} (hn : narrow ty v = v) (hfit : fits ty v = true) (hdg : decode cc pc = .ok (.putfield index, 3))
    (kk : ∀ (H1 : Heap) (sl : Nat), t_OB (b + r) (D.1.1 ci) (zNF ci) (D.1.2 ci) H1 (updV (z_V b ci (g r).2.2 (u r)) k v) → H1.size = H.size → (∀ q : Nat, q ≠ b + r → H1[q]? = H[q]?) → W p l e R s m args below meth c H1 (locs ++ [⟨b + r, sl⟩]) cells slots Q (F0 m (pc + 3) ls rest)) : W p l e R s m args below meth c H locs cells slots Q (F0 m pc ls (v :: .ref (b + r) :: rest)) := by
  obtain ⟨hx, hb, hts, hown, hK⟩ := C0
  obtain ⟨C, T, N, ref, ty0, hc, hin, hk, hlink, hsame, hty, hnm, hty2, hfin⟩ := F
  obtain ⟨C', T', N', hc', hdecl⟩ := fd
  cases hc.symm.trans hc'
  have hap := va_apart (own := own) hts hin ty0 hty hnm hK.1 hc
  obtain ⟨cell, q1, q2, q3, q4⟩ := z_ob hW hg
  rw [z_NF hc] at q4
  obtain ⟨hS, hfc, kC, hkC, hkind⟩ := hK.1.1 ci _ hc
  obtain ⟨cf, kf, fi, f, hi, hsl⟩ := hS k hk
  have hi2 : s.fieldFound? ref (T k).2.1 (T k).2.2.1 = some (cf, kf, fi, f) := by
    rcases hsame with h | h
    · rw [h]; exact hi
    · exact u_same (hts _ h) _ hi
  have hlay := hts _ (hin _ (u_in_lay hk))
  unfold u_lay at hlay
  rw [if_pos hfin] at hlay
  have hst := (u_facts hfc hkC (u_lays hts hin hk) hi).1
  have hcf : m.cls = cf := by
    obtain ⟨_, _, c', _, _, _, -, -, hf', -, -, -, hown2, -⟩ := Cond.laysFinal_spec hlay
    have e1 : c' = cf := by have := hi.symm.trans hf'; simp at this; exact this.1.symm
    rw [hdecl] at hown2
    rw [← e1]; exact Option.some.inj (hown.symm.trans hown2)
  have h6 := u_fits hfc hkC hkind (Or.inr hlay) hi ((hty k hk).trans (congrArg some hty2)) hn hfit
  refine W.putFinK hx hb hown (hts _ hlink) hi2 hst hcf hin0 (by rw [q2]; exact h6) q1 q3 (by rw [hsl]; exact k2_hasslot (q4 k hk)) rfl rfl hdg fun H' e1 e2 e3 => ?_
  rw [hsl] at e1 ⊢
  refine kk H' _ ?_ e2 e3
  rw [z_NF hc]
  exact ⟨_, e1, q2, q3, t_set q4 hap hk v⟩
theorem z_putFi (C0 : z_C p c cc s m args own D A) (hin0 : meth.name = "<init>") (hW : z_W D A b g u H) (hS0 : va_S A H0 H locs) (hZ : H.size = b + n) {index ci k r : Nat} {ty : FieldType} (F : z_FL own index ci k ty true) (fd : z_FD own ci k) (hg : (g r).1 = ci + 4) (hf : zRf ci k = false) {v : Int32} (hn : narrow ty (.int v) = .int v) (hfit : fits ty (.int v) = true) (hdg : decode cc pc = .ok (.putfield index, 3))
    (kk : ∀ (H1 : Heap) (locs1 : List Loc), z_W D A b g (z_up u r k v) H1 → va_S A H0 H1 locs1 → H1.size = b + n → W p l e R s m args below meth c H1 locs1 cells slots Q (F0 m (pc + 3) ls rest)) : W p l e R s m args below meth c H locs cells slots Q (F0 m pc ls (.int v :: .ref (b + r) :: rest)) := by
  refine z_putF0 C0 hin0 hW F fd hg hn hfit hdg fun H1 sl e1 e2 e3 => kk H1 _ (hW.put ?_ e3) (hS0.put e2 e3 (z_in4 hW (k := ci + 3) hg)) (by omega)
  unfold z_at
  rw [hg]
  exact t_OB.to e1 (fun j _ => z_V_set hf j)
theorem z_V_setr {b k j o : Nat} {rf : Nat → Option Nat} {x : Nat → Int32} (hf : zRf k j = true) (i : Nat) : updV (z_V b k rf x) j (.ref (b + o)) i = z_V b k (fun j' => if j' = j then some o else rf j') x i := by
  unfold updV z_V
  by_cases ej : i = j
  · subst ej
    rw [if_pos rfl, hf, if_pos rfl]
    simp only [if_true]
    rfl
  · rw [if_neg ej]
    by_cases hz : zRf k i = true
    · rw [if_pos hz, if_pos hz]
      simp only [if_neg ej]
    · rw [if_neg hz, if_neg hz]
theorem z_W_setr (hW : z_W D A b g u H) {H1 : Heap} {r ci k o : Nat} (hg : (g r).1 = ci + 4) (hf : zRf ci k = true) (e1 : t_OB (b + r) (D.1.1 ci) (zNF ci) (D.1.2 ci) H1 (updV (z_V b ci (g r).2.2 (u r)) k (.ref (b + o)))) (e3 : ∀ q : Nat, q ≠ b + r → H1[q]? = H[q]?) : z_W D A b (zgs g r k o) u H1 := by
  intro r'
  unfold zgs
  by_cases er : r' = r
  · subst er
    rw [if_pos rfl]
    refine ⟨?_, (hW r').2⟩
    unfold z_at
    show (match (g r').1 with | 0 => True | 1 => _ | 2 => _ | 3 => _ | k + 4 => _)
    rw [hg]
    exact t_OB.to e1 (fun j _ => z_V_setr hf j)
  · rw [if_neg er]
    exact ⟨(hW r').1.kept (e3 _ (fun h => er (Nat.add_left_cancel h))), (hW r').2⟩
theorem z_putFr (C0 : z_C p c cc s m args own D A) (hin0 : meth.name = "<init>") (hW : z_W D A b g u H) (hS0 : va_S A H0 H locs) (hZ : H.size = b + n) {index ci k r o : Nat} {ty : FieldType} (F : z_FL own index ci k ty true) (fd : z_FD own ci k) (hg : (g r).1 = ci + 4) (hf : zRf ci k = true) (hn : narrow ty (.ref (b + o)) = .ref (b + o)) (hfit : fits ty (.ref (b + o)) = true) (hdg : decode cc pc = .ok (.putfield index, 3))
    (kk : ∀ (H1 : Heap) (locs1 : List Loc), z_W D A b (zgs g r k o) u H1 → va_S A H0 H1 locs1 → H1.size = b + n → W p l e R s m args below meth c H1 locs1 cells slots Q (F0 m (pc + 3) ls rest)) : W p l e R s m args below meth c H locs cells slots Q (F0 m pc ls (.ref (b + o) :: .ref (b + r) :: rest)) :=
  z_putF0 C0 hin0 hW F fd hg hn hfit hdg fun H1 sl e1 e2 e3 => kk H1 _ (z_W_setr hW hg hf e1 e3) (hS0.put e2 e3 (z_in4 hW (k := ci + 3) hg)) (by omega)
end ZAL
