/-! binds of the whole object's functions; the ring of keeps -/
def z_b3 {α β : Type} (x : Option (α × zq × zU)) (f : α → zq → zU → Option β) : Option β := x.bind (fun s => f s.1 s.2.1 s.2.2)
def z_bx {α β : Type} (x : Option ((String ⊕ α) × zq × zU)) (f : α → zq → zU → Option ((String ⊕ β) × zq × zU)) : Option ((String ⊕ β) × zq × zU) := x.bind (fun s => match s.1 with
  | .inl E => some (.inl E, s.2)
  | .inr r => f r s.2.1 s.2.2)
theorem z_bd3 {α β : Type} {x : Option (α × zq × zU)} {f : α → zq → zU → Option β} {y : β} (h : z_b3 x f = some y) : ∃ r q u, x = some (r, q, u) ∧ f r q u = some y := by
  match x, h with
  | none, h => cases h
  | some (r, q, u), h => exact ⟨r, q, u, rfl, h⟩
theorem z_bxd {α β : Type} {x : Option ((String ⊕ α) × zq × zU)} {f : α → zq → zU → Option ((String ⊕ β) × zq × zU)} {o : String ⊕ β} {q' : zq} {u' : zU} (h : z_bx x f = some (o, q', u')) : (∃ E, x = some (.inl E, q', u') ∧ o = .inl E) ∨ ∃ r q u, x = some (.inr r, q, u) ∧ f r q u = some (o, q', u') := by
  match x, h with
  | none, h => cases h
  | some (.inl E, q, u), h => cases h; exact Or.inl ⟨E, rfl, rfl⟩
  | some (.inr r, q, u), h => exact Or.inr ⟨r, q, u, rfl, h⟩
theorem z_in_lt {i : Int32} {n : Nat} (h : z_in i n = true) : i.toNatClampNeg < n := by
  unfold z_in at h
  simp only [Bool.and_eq_true, decide_eq_true_eq] at h
  exact h.2
theorem w_gd {L : List Cond} (h : ∀ w ∈ L.filter goodWord, w ∈ lw_tbl) : ∀ w ∈ L.filter goodWord, w ∈ wsA := fun w hw => List.mem_filter.mpr ⟨h w hw, (List.mem_filter.mp hw).2⟩
section ZAA
variable {p : Program} {l : Launch} {e : Env} {R : Room} {s : State} {m : MethodId} {args : Array Value} {below : List Frame} {meth : Method} {c : Code} {H : Heap} {locs : List Loc} {cells slots : Nat} {Q : State → Prop}
variable {cc : ByteArray} {pc : Nat} {ls : Array Slot} {rest : List Value} {D : zD} {A : Nat → Prop} {b : Nat} {g : zG} {u : zU} {own : String}
theorem z_aald (C0 : z_C p c cc s m args own D A) (hW : z_W D A b g u H) {r n k o : Nat} (hg : (g r).1 = 3) (hn : (g r).2.1 = n) {i : Int32} (hin : z_in i n = true) (hk : i.toNatClampNeg = k) (ho : (g r).2.2 k = some o) (hdg : decode cc pc = .ok (.aaload, 1))
    (kk : W p l e R s m args below meth c H locs cells slots Q (F0 m (pc + 1) ls (.ref (b + o) :: rest))) : W p l e R s m args below meth c H locs cells slots Q (F0 m pc ls (.int i :: .ref (b + r) :: rest)) := by
  subst hk; subst hn
  obtain ⟨hx, hb, hts, hown, hK⟩ := C0
  have h := (hW r).1
  unfold z_at at h
  rw [hg] at h
  have hin2 := z_in_vp hin
  have hlt : i.toNatClampNeg < (g r).2.1 := z_in_lt hin
  have hP : va_P D.1 vwCl [(b + r, .inl (D.2.2.2.1, (g r).2.1, .inr (.inr (.inr (.inr (fun j => ((g r).2.2 j).map (fun o => b + o)))))))] H := fun k q hq => by
    match k, hq with
    | 0, hq => cases hq; exact h
    | k + 1, hq => simp at hq
  refine va_aldq hx hb hK.1 hP 0 2 rfl rfl hin2 hdg ?_
  show W p l e R s m args below meth c H locs cells slots Q (F0 m (pc + 1) ls (va_rf (((g r).2.2 i.toNatClampNeg).map (fun o => b + o)) :: rest))
  rw [ho]
  exact kk
end ZAA
