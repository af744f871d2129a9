/-! MACHINE, 12: what holds at the start -/
theorem eqR {args : Array Value} {s : State} {t u : Term} {a : Nat} (h : (Cond.eq t u).before args s = true) (hu : u.eval args s none [] s = some (.ref a)) : t.eval args s none [] s = some (.ref a) := by
  cases hv : t.eval args s none [] s with
  | none => simp [Cond.before, Cond.holds, Cond.value, hv] at h
  | some w =>
    simp only [Cond.before, Cond.holds, Cond.value, hv, hu] at h
    cases w <;> simp_all
/-- as vk_Sof, but the strings are told apart by their letters -/
theorem l_strs {args : Array Value} {s : State} {N : Nat} {tm : Nat → Term} {len : List Nat} {byt : List (List Int32)} {A : Nat → Prop} (hN : ∀ i : Nat, i < N → len.getD i 0 < 2 ^ 20) (hex : ∀ i : Nat, i < N → (Cond.exactly (tm i) "java/lang/String").before args s = true) (hco : ∀ i : Nat, i < N → (Cond.eq (.field (tm i) "java/lang/String" "coder" "B") (.int 0)).before args s = true)
    (har : ∀ i : Nat, i < N → (Cond.arrayOf (.field (tm i) "java/lang/String" "value" "[B") .byte).before args s = true) (hle : ∀ i : Nat, i < N → (Cond.eq (.length (.field (tm i) "java/lang/String" "value" "[B")) (.int (Int32.ofNat (len.getD i 0)))).before args s = true)
    (hel : ∀ i : Nat, i < N → ∀ j : Nat, j < len.getD i 0 → (Cond.eq (.elem (.field (tm i) "java/lang/String" "value" "[B") (.int (Int32.ofNat j))) (.int ((byt.getD i []).getD j 0))).before args s = true)
    (hne : ∀ i, i < N → ∀ j, j < N → len.getD i 0 = len.getD j 0 → (∀ k, k < len.getD i 0 → (byt.getD i []).getD k 0 = (byt.getD j []).getD k 0) → i = j) (hA : ∀ a : Nat, a < s.heap.size → ¬ A a) :
    ∃ adK adV : Nat → Nat, vk_S N len byt adK adV A s s.heap ∧ ∀ i : Nat, i < N → (tm i).eval args s none [] s = some (.ref (adK i)) := by
  have h0 : ∀ i : Nat, ∃ q : Nat × Nat, i < N → (tm i).eval args s none [] s = some (.ref q.1) ∧ va_O "java/lang/String" q.1 A s s.heap ∧ va_OF "java/lang/String" "coder" "B" (.int 0) q.1 A s s.heap ∧ va_OF "java/lang/String" "value" "[B" (.ref q.2) q.1 A s s.heap ∧ va_T .byte q.2 (len.getD i 0) (fun j => .int ((byt.getD i []).getD j 0)) A s s.heap := by
    intro i
    by_cases hi : i < N
    · obtain ⟨a, c, cA, kA, q1, q2, q3, q4, q5, q6, -⟩ := Cond.exactly_spec (args := args) (first := s) (o := none) (s := s) (idx := []) (t := tm i) (cls := "java/lang/String") (hex i hi)
      obtain ⟨t, ht, hT⟩ := va_Tof (f := fun j => .int ((byt.getD i []).getD j 0)) (A := A) (Nat.lt_trans (hN i hi) (by decide)) (har i hi) (va_eqt (hle i hi)) (fun j hj => va_eqt (hel i hi j hj)) hA
      exact ⟨(a, t), fun _ => ⟨q1, ⟨cA, q3, q5, by rw [q6]; exact q2, hA a (Array.getElem?_eq_some_iff.mp q3).1⟩, vk_OFof q1 (va_eqt (hco i hi)) hA, vk_OFof q1 ht hA, hT⟩⟩
    · exact ⟨(0, 0), fun h => absurd h hi⟩
  obtain ⟨ad, had⟩ := Classical.axiomOfChoice h0
  refine ⟨fun i => (ad i).1, fun i => (ad i).2, ⟨fun i hi => (had i hi).2, fun i j hi hj e => ?_⟩, fun i hi => (had i hi).1⟩
  have e : (ad i).1 = (ad j).1 := e
  obtain ⟨-, -, -, ⟨cf, k, fi, f, cell, a1, a2, a3, a4, a5, -⟩, T1, b1, -, -, b4, b5, b6, -⟩ := had i hi
  obtain ⟨-, -, -, ⟨cf', k', fi', f', cell', c1, c2, c3, c4, c5, -⟩, T2, d1, -, -, d4, d5, d6, -⟩ := had j hj
  rw [a1] at c1
  cases c1
  rw [← e, a3] at c3
  cases c3
  rw [a5] at c5
  have e2 : (ad i).2 = (ad j).2 := Value.ref.inj (Option.some.inj c5)
  rw [← e2, b1] at d1
  cases d1
  have hl : len.getD i 0 = len.getD j 0 := by
    rw [b5] at d5
    exact (nI_eq (Nat.lt_trans (hN i hi) (by decide)) (Nat.lt_trans (hN j hj) (by decide))).mp d5
  refine hne i hi j hj hl (fun k hk => ?_)
  have x1 := b6 k hk
  have x2 := d6 k (by omega)
  rw [x1] at x2
  exact Value.int.inj (Option.some.inj x2)
def sTm (i : Nat) : Term := match sOrd[sRepP.getD i 0]? with
  | some q => .string q.1 q.2.1
  | none => .string "" 0
theorem sRep_ok : ∀ i, i < 47 → ((sOrd[sRepP.getD i 0]?).map (fun q => q.2.2.1)) = some i := by decide +kernel
theorem sEnt_ok : ∀ q ∈ sEnt, q.2.2.2 < 47 ∧ (match sOrd[sRepP.getD q.2.2.2 0]? with | some z => (z.1, z.2.1) :: z.2.2.2 | none => []).contains (q.1, q.2.1) = true := by decide +kernel
theorem sDist : ∀ i, i < 47 → ∀ j, j < 47 → sLen.getD i 0 = sLen.getD j 0 → (∀ k, k < sLen.getD i 0 → (sByt.getD i []).getD k 0 = (sByt.getD j []).getD k 0) → i = j := by decide +kernel
theorem sLen_ok : ∀ i, i < 47 → sLen.getD i 0 < 2 ^ 20 := by decide +kernel
theorem s_words {args : Array Value} {s : State} (h : (Cond.and given_1 narrow_1).before args s = true) : ∀ q ∈ sOrd, ∀ w ∈ strW q, w.before args s = true := by
  intro q hq w hw
  refine flat_of_before _ h w ?_
  have : w ∈ sOrd.flatMap strW := List.mem_flatMap.mpr ⟨q, hq, hw⟩
  rw [← s_flat] at this
  exact List.mem_of_mem_drop this
theorem s_rep {args : Array Value} {s : State} (h : (Cond.and given_1 narrow_1).before args s = true) {i : Nat} (hi : i < 47) : ∃ q, sOrd[sRepP.getD i 0]? = some q ∧ q.2.2.1 = i ∧ sTm i = .string q.1 q.2.1 ∧ ∀ w ∈ strW q, w.before args s = true := by
  have hr := sRep_ok i hi
  cases hq : sOrd[sRepP.getD i 0]? with
  | none => rw [hq] at hr; cases hr
  | some q =>
    rw [hq] at hr
    refine ⟨q, rfl, Option.some.inj hr, ?_, s_words h q (List.mem_of_getElem? hq)⟩
    unfold sTm
    rw [hq]
theorem l_S {args : Array Value} {s : State} {A : Nat → Prop} (hts : ∀ w ∈ lw_tbl, w.before args s = true) (h : (Cond.and given_1 narrow_1).before args s = true) (hA : ∀ a : Nat, a < s.heap.size → ¬ A a) : ∃ adK adV : Nat → Nat, vk_S sN sLen sByt adK adV A s s.heap ∧ ∀ q ∈ sEnt, vk_R q.1 q.2.1 q.2.2.1 (adK q.2.2.2) s := by
  have a1 : ∀ i : Nat, i < 47 → (Cond.exactly (sTm i) "java/lang/String").before args s = true := by
    intro i hi
    obtain ⟨z, z1, z2, z3, z4⟩ := s_rep h hi
    rw [z3]
    exact z4 _ (List.mem_append_left _ (List.mem_append_left _ (by simp)))
  have a2 : ∀ i : Nat, i < 47 → (Cond.eq (.field (sTm i) "java/lang/String" "coder" "B") (.int 0)).before args s = true := by
    intro i hi
    obtain ⟨z, z1, z2, z3, z4⟩ := s_rep h hi
    rw [z3]
    exact z4 _ (List.mem_append_left _ (List.mem_append_left _ (by simp)))
  have a3 : ∀ i : Nat, i < 47 → (Cond.arrayOf (.field (sTm i) "java/lang/String" "value" "[B") .byte).before args s = true := by
    intro i hi
    obtain ⟨z, z1, z2, z3, z4⟩ := s_rep h hi
    rw [z3]
    exact z4 (.arrayOf (strV z.1 z.2.1) .byte) (List.mem_append_left _ (List.mem_append_left _ (by simp)))
  have a4 : ∀ i : Nat, i < 47 → (Cond.eq (.length (.field (sTm i) "java/lang/String" "value" "[B")) (.int (Int32.ofNat (sLen.getD i 0)))).before args s = true := by
    intro i hi
    obtain ⟨z, z1, z2, z3, z4⟩ := s_rep h hi
    rw [z3, ← z2]
    exact z4 (.eq (.length (strV z.1 z.2.1)) (.int (Int32.ofNat (sLen.getD z.2.2.1 0)))) (List.mem_append_left _ (List.mem_append_left _ (by simp)))
  have a5 : ∀ i : Nat, i < 47 → ∀ j : Nat, j < sLen.getD i 0 → (Cond.eq (.elem (.field (sTm i) "java/lang/String" "value" "[B") (.int (Int32.ofNat j))) (.int ((sByt.getD i []).getD j 0))).before args s = true := by
    intro i hi j hj
    obtain ⟨z, z1, z2, z3, z4⟩ := s_rep h hi
    rw [z3, ← z2]
    exact z4 (.eq (.elem (strV z.1 z.2.1) (.int (Int32.ofNat j))) (.int ((sByt.getD z.2.2.1 []).getD j 0))) (List.mem_append_left _ (List.mem_append_right _ (List.mem_map.mpr ⟨j, List.mem_range.mpr (by rw [z2]; exact hj), rfl⟩)))
  obtain ⟨adK, adV, h1, h2⟩ := l_strs (args := args) (s := s) (N := 47) (tm := sTm) (len := sLen) (byt := sByt) (A := A) sLen_ok a1 a2 a3 a4 a5 sDist hA
  refine ⟨adK, adV, h1, fun q hq => ?_⟩
  obtain ⟨n, hn⟩ := sr_all q hq
  obtain ⟨g1, g2⟩ := sEnt_ok q hq
  obtain ⟨z, z1, z2, z3, z4⟩ := s_rep h g1
  have e1 := h2 _ g1
  rw [z3] at e1
  refine vk_R.of (l_tb hts n hn) ?_
  rw [z1] at g2
  have g3 : (q.1, q.2.1) ∈ (z.1, z.2.1) :: z.2.2.2 := List.elem_iff.mp g2
  rcases List.mem_cons.mp g3 with g | g
  · have e3 : q.1 = z.1 := congrArg Prod.fst g
    have e4 : q.2.1 = z.2.1 := congrArg Prod.snd g
    rw [e3, e4]
    exact e1
  · exact eqR (z4 (.eq (.string q.1 q.2.1) (.string z.1 z.2.1)) (List.mem_append_right _ (List.mem_map.mpr ⟨(q.1, q.2.1), g, rfl⟩))) e1
