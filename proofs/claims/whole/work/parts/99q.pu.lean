/-! PURE, 66: a line of the law in step -/
def OE : Option (Nat → Int32) → Option (Nat → Int32) → Prop
  | none, none => True
  | some F, some F' => ∀ j, j < 9 → F j = F' j
  | _, _ => False
theorem OE.rf (o : Option (Nat → Int32)) : OE o o := by
  cases o with
  | none => exact trivial
  | some F => exact fun _ _ => rfl
theorem frm_x {E E' : Nat → Nat} {m : Nat} (h : ∀ j, j < m → E' j = E j) {j : Nat} (hj : j ≤ m) : frm E' j = frm E j := by
  unfold frm
  by_cases e : j = 0
  · rw [if_pos e, if_pos e]
  · rw [if_neg e, if_neg e]; exact h _ (by omega)
theorem lnT_ext {A1 A2 A3 K A B A1' A2' K' A' B' : Nat → Int32} {E E' : Nat → Nat} {o o' : Option (Nat → Int32)} {k wh : Nat} (hk : k < 2 ^ 31) (hn : ∀ i, i < k → K' i = K i ∧ A' i = A i ∧ B' i = B i) (ho : OE o o') : ∀ m, LWf A3 K A B E m k → (∀ j, j < m → A1' j = A1 j ∧ A2' j = A2 j ∧ E' j = E j) → lnT A1' A2' K' A' B' E' wh o' m = lnT A1 A2 K A B E wh o m
  | 0, _, _ => rfl
  | m + 1, hL, h => by
    have ih := lnT_ext hk hn ho m ⟨fun j hj => hL.1 j (by omega), fun j hj => hL.2 j (by omega)⟩ (fun j hj => h j (by omega)) (wh := wh)
    obtain ⟨e1, e2, e3⟩ := h m (by omega)
    have ef : frm E' m = frm E m := frm_x (m := m) (fun j hj => (h j (by omega)).2.2) (Nat.le_refl _)
    obtain ⟨-, l1, l2⟩ := hL.1 m (by omega)
    have hh : hld K' A' B' E' o' m = hld K A B E o m := by
      unfold hld
      rw [ef, e3]
      by_cases hb : E m = frm E m
      · rw [decide_eq_true hb, Bool.true_or, Bool.true_or]
      · cases o with
        | none =>
          cases o' with
          | none => rfl
          | some F' => exact absurd ho (fun h => h)
        | some F =>
          cases o' with
          | none => exact absurd ho (fun h => h)
          | some F' =>
            have : EV K A B F (frm E m) (E m) (E m - 1) = EV K' A' B' F' (frm E m) (E m) (E m - 1) := EV_ext ho (by omega) (Nat.le_refl _) (fun i a b => ⟨hL.2 m (by omega) i a b, (hn i (by omega)).1.symm, (hn i (by omega)).2.1.symm, (hn i (by omega)).2.2.symm⟩) (by omega) (by omega)
            show (_ || decide (EV K' A' B' F' (frm E m) (E m) (E m - 1) ≠ 0)) = (_ || decide (EV K A B F (frm E m) (E m) (E m - 1) ≠ 0))
            rw [this]
    show (if A1' m = nI wh ∧ hld K' A' B' E' o' m = true then lnT A1' A2' K' A' B' E' wh o' m + A2' m else lnT A1' A2' K' A' B' E' wh o' m) = (if A1 m = nI wh ∧ hld K A B E o m = true then lnT A1 A2 K A B E wh o m + A2 m else lnT A1 A2 K A B E wh o m)
    rw [ih, e1, e2, hh]
def cRec (what r : Int32) (u59 : zU) : Option zU := if (12 : Int32) ≤ (u59 29 8) then (some u59) else (if z_in (u59 29 8) 12 = true then (z_let (z_up u59 30 (u59 29 8).toNatClampNeg what) (fun u60 => if z_in (u60 29 8) 12 = true then (z_let (z_up u60 31 (u60 29 8).toNatClampNeg r) (fun u61 => if z_in (u61 29 8) 12 = true then (z_let (z_up u61 32 (u61 29 8).toNatClampNeg (u61 29 9)) (fun u62 => z_let (z_up u62 29 8 ((u62 29 8) + (1 : Int32))) (fun u63 => some u63))) else none)) else none)) else none)
def cLn (what : Int32) (u2 : zU) : Option zU := z_b2 (f_X8_number (0 : Int32) (30 : Int32) u2) (fun r50 u51 => z_b2 (f_X8_takes 32 u51) (fun t52 u53 => if t52 = true then (z_b2 (f_X5_readCondition (f_X5_readAtom 8) (0 : Int32) u53) (fun _ u59 => cRec what r50 u59)) else cRec what r50 u53))
theorem f_X5_readLine_t (u : zU) : f_X5_readLine u = z_b2 (f_X8_takes 29 u) (fun t1 u2 => if t1 = true then cLn 0 u2 else (z_b2 (f_X8_takes 30 u2) (fun t3 u4 => if t3 = true then cLn 1 u4 else (z_b2 (f_X8_takes 31 u4) (fun t5 u6 => if t5 = true then cLn 2 u6 else ((f_X8_refuse u6).bind (fun u7 => cLn (-1) u7))))))) := rfl
def rAdd (a b : Int32) (u35 : zU) : Option zU := z_let (z_up u35 0 18 ((u35 0 18) + a)) (fun u36 => z_let (z_up u36 0 19 ((u36 0 19) + b)) (fun u37 => some u37))
def rLn (fa fb : Int32 → Int32) (u2 : zU) : Option zU := z_b2 (f_X11_figures (0 : Int32) (30 : Int32) u2) (fun r28 u29 => if (u29 0 12) = (-1 : Int32) then (z_b2 (f_X11_has 32 u29) (fun t30 u31 => if t30 = true then (z_b2 (f_X11_some (f_X11_atom 8) u31) (fun t34 u35 => if (bI t34) = 0 then (if (u35 0 12) = (-1 : Int32) then (some u35) else (some u35)) else (if (u35 0 17) = 0 then (if (u35 0 12) = (-1 : Int32) then (rAdd (fa r28) (fb r28) u35) else (some u35)) else (if (u35 0 12) = (-1 : Int32) then (some u35) else (some u35))))) else (if (u31 0 12) = (-1 : Int32) then (rAdd (fa r28) (fb r28) u31) else (some u31)))) else (some u29))
theorem f_X11_lawLine_t (u : zU) : f_X11_lawLine u = z_b2 (f_X11_has 29 u) (fun t1 u2 => if t1 = true then rLn (fun r => r) (fun _ => 0) u2 else (z_b2 (f_X11_has 30 u2) (fun t3 u4 => if t3 = true then rLn (fun _ => 0) (fun r => r) u4 else (z_b2 (f_X11_has 31 u4) (fun t5 u6 => if t5 = true then rLn (fun _ => 0) (fun r => -r) u6 else (z_let (f_X11_wrong (u6 0 11) u6) (fun u7 => some u7))))))) := rfl
def recu (u : zU) (m : Nat) (what r : Int32) : zU := z_up (z_up (z_up (z_up u 30 m what) 31 m r) 32 m (u 29 9)) 29 8 (nI (m + 1))
theorem pc_rec {u : zU} {m : Nat} (h : u 29 8 = nI m) (hm : m < 12) (what r : Int32) : cRec what r u = some (recu u m what r) := by
  have hin := pu_in hm (show 12 < 2 ^ 31 by decide)
  unfold cRec
  rw [h, if_neg (show ¬ (12 : Int32) ≤ nI m from nI_ge (b := 12) hm (by decide)), if_pos hin, zl, nI_clamp (by omega)]
  rw [show (z_up u 30 m what) 29 8 = nI m from h, if_pos hin, zl, nI_clamp (by omega)]
  rw [show (z_up (z_up u 30 m what) 31 m r) 29 8 = nI m from h, if_pos hin, zl, nI_clamp (by omega), zl]
  rw [show (z_up (z_up (z_up u 30 m what) 31 m r) 32 m ((z_up (z_up u 30 m what) 31 m r) 29 9)) 29 8 = nI m from h, nI_1]
  rfl
def KM (u u' : zU) : Prop := ∀ r j, ¬ (r = 3 ∧ (j = 4 ∨ j = 5)) → ¬ (r = 29 ∧ (j = 8 ∨ j = 9)) → ¬ (30 ≤ r ∧ r ≤ 35) → u' r j = u r j
def KN (v v' : zU) : Prop := ∀ r j, ¬ (r = 0 ∧ (j = 11 ∨ j = 12 ∨ j = 18 ∨ j = 19)) → v' r j = v r j
theorem KM.tr {u u1 u2 : zU} (h : KM u u1) (k : KM u1 u2) : KM u u2 := fun r j a b c => (k r j a b c).trans (h r j a b c)
theorem KN.tr {u u1 u2 : zU} (h : KN u u1) (k : KN u1 u2) : KN u u2 := fun r j a => (k r j a).trans (h r j a)
theorem KL.m {u u' : zU} (h : KL u u') : KM u u' := fun r j a b c => h r j a (by omega) (by omega)
theorem KR.n {u u' : zU} (h : KR u u') : KN u u' := fun r j a => h r j (by omega)
theorem recu_m (u : zU) (m : Nat) (what r : Int32) : KM u (recu u m what r) := fun r' j _ b c => by
  unfold recu
  rw [zupo (by omega), zupo (by omega), zupo (by omega), zupo (by omega)]
theorem KN.fv {v v' : zU} (h : KN v v') : Fac v' = Fac v := Fac_e (funext fun j => h 6 j (by omega)) (h 0 15 (by omega)) (h 0 16 (by omega))
/-- of whom the reference asks -/
def ov (v : zU) : Option (Nat → Int32) := if v 0 17 = 0 then some (Fac v) else none
/-- what has come of m lines -/
def QL (us v0 : zU) (m i : Nat) (u v : zU) : Prop := ∃ E k, (u 29 8 = nI m ∧ u 29 9 = nI k ∧ k ≤ i ∧ k ≤ 400 ∧ frm E m = k) ∧ LWf (u 32) (u 33) (u 34) (u 35) E m k ∧ (∀ j, j < m → sm (u 31 j) 30) ∧ (v 0 18 = v0 0 18 + lnT (u 30) (u 31) (u 33) (u 34) (u 35) E 0 (ov v0) m ∧ v 0 19 = v0 0 19 + lnT (u 30) (u 31) (u 33) (u 34) (u 35) E 1 (ov v0) m - lnT (u 30) (u 31) (u 33) (u 34) (u 35) E 2 (ov v0) m) ∧ KM us u ∧ KN v0 v
/-- one more line -/
theorem QL.add {us v0 : zU} {m i i' k' c : Nat} {u v u1 v1 v' : zU} (h : QL us v0 m i u v) (hk : u1 29 9 = nI k') (hki : k' ≤ i') (hk4 : k' ≤ 400) (hND : ∀ k, u 29 9 = nI k → k ≤ 400 → k ≤ k' ∧ ND k u u1 ∧ (∀ j, k ≤ j → j < k' → NV (u1 33 j) (u1 34 j) (u1 35 j) k j)) (hKL : KL u u1) (hKN : KN v v1) (h18 : v1 0 18 = v 0 18) (h19 : v1 0 19 = v 0 19) {r : Int32} (hr : sm r 30) (hc : c < 3) (hb : Bool) (hv' : KN v1 v') (w18 : v' 0 18 = v1 0 18 + (if hb = true then (if c = 0 then r else 0) else 0)) (w19 : v' 0 19 = v1 0 19 + (if hb = true then (if c = 1 then r else if c = 2 then -r else 0) else 0)) (hh : ∀ k, u 29 9 = nI k → k ≤ 400 → hb = (decide (k' = k) || (match ov v0 with | none => false | some F => decide (EV (u1 33) (u1 34) (u1 35) F k k' (k' - 1) ≠ 0)))) : QL us v0 (m + 1) i' (recu u1 m (nI c) r) v' := by
  obtain ⟨E, k, ⟨a1, a2, a3, a4, a5⟩, b, b2, ⟨c1, c2⟩, d1, d2⟩ := h
  obtain ⟨hkk, hnd, hnv⟩ := hND k a2 a4
  have hh := hh k a2 a4
  have hl : ∀ r, (r = 30 ∨ r = 31 ∨ r = 32) → u1 r = u r := fun r hr => funext fun j => hKL r j (by omega) (by omega) (by omega)
  have e30 : (recu u1 m (nI c) r) 30 = upd (u1 30) m (nI c) := rfl
  have e31 : (recu u1 m (nI c) r) 31 = upd (u1 31) m r := rfl
  have e32 : (recu u1 m (nI c) r) 32 = upd (u1 32) m (u1 29 9) := rfl
  have e33 : (recu u1 m (nI c) r) 33 = u1 33 := rfl
  have e34 : (recu u1 m (nI c) r) 34 = u1 34 := rfl
  have e35 : (recu u1 m (nI c) r) 35 = u1 35 := rfl
  have e29 : (recu u1 m (nI c) r) 29 9 = u1 29 9 := rfl
  have eE : ∀ j, j < m → (fun j => if j = m then k' else E j) j = E j := fun j hj => if_neg (by omega)
  have eEm : (fun j => if j = m then k' else E j) m = k' := if_pos rfl
  have eF : frm (fun j => if j = m then k' else E j) m = k := by rw [frm_x eE (Nat.le_refl _)]; exact a5
  generalize (fun j => if j = m then k' else E j) = E' at eE eEm eF
  have hln : ∀ wh, lnT ((recu u1 m (nI c) r) 30) ((recu u1 m (nI c) r) 31) ((recu u1 m (nI c) r) 33) ((recu u1 m (nI c) r) 34) ((recu u1 m (nI c) r) 35) E' wh (ov v0) m = lnT (u 30) (u 31) (u 33) (u 34) (u 35) E wh (ov v0) m := fun wh => by
    rw [e30, e31, e33, e34, e35]
    exact lnT_ext (A3 := u 32) (by omega) (fun i hi => hnd i hi) (OE.rf _) m b (fun j hj => ⟨by rw [upd_ne (by omega), hl 30 (by omega)], by rw [upd_ne (by omega), hl 31 (by omega)], eE j hj⟩)
  have hhd : hld ((recu u1 m (nI c) r) 33) ((recu u1 m (nI c) r) 34) ((recu u1 m (nI c) r) 35) E' (ov v0) m = hb := by
    rw [hh]
    unfold hld
    rw [eF, eEm, e33, e34, e35]
    cases ov v0 <;> rfl
  have hs : ∀ wh, lnT ((recu u1 m (nI c) r) 30) ((recu u1 m (nI c) r) 31) ((recu u1 m (nI c) r) 33) ((recu u1 m (nI c) r) 34) ((recu u1 m (nI c) r) 35) E' wh (ov v0) (m + 1) = (if nI c = nI wh ∧ hb = true then lnT (u 30) (u 31) (u 33) (u 34) (u 35) E wh (ov v0) m + r else lnT (u 30) (u 31) (u 33) (u 34) (u 35) E wh (ov v0) m) := fun wh => by
    show (if (recu u1 m (nI c) r) 30 m = nI wh ∧ hld ((recu u1 m (nI c) r) 33) ((recu u1 m (nI c) r) 34) ((recu u1 m (nI c) r) 35) E' (ov v0) m = true then lnT ((recu u1 m (nI c) r) 30) ((recu u1 m (nI c) r) 31) ((recu u1 m (nI c) r) 33) ((recu u1 m (nI c) r) 34) ((recu u1 m (nI c) r) 35) E' wh (ov v0) m + (recu u1 m (nI c) r) 31 m else lnT ((recu u1 m (nI c) r) 30) ((recu u1 m (nI c) r) 31) ((recu u1 m (nI c) r) 33) ((recu u1 m (nI c) r) 34) ((recu u1 m (nI c) r) 35) E' wh (ov v0) m) = _
    rw [hln, hhd, e30, e31, upd_eq, upd_eq]
  refine ⟨E', k', ⟨rfl, by rw [e29]; exact hk, hki, hk4, by rw [frm_s]; exact eEm⟩, ⟨fun j hj => ?_, fun j hj i h1 h2 => ?_⟩, fun j hj => ?_, ⟨?_, ?_⟩, (d1.tr hKL.m).tr (recu_m _ _ _ _), (d2.tr hKN).tr hv'⟩
  · rw [e32]
    by_cases e : j = m
    · subst e; rw [upd_eq, eEm, eF, hk]; exact ⟨rfl, hkk, Nat.le_refl _⟩
    · obtain ⟨x1, x2, x3⟩ := b.1 j (by omega)
      rw [upd_ne e, hl 32 (by omega), eE j (by omega), frm_x eE (by omega)]
      exact ⟨x1, x2, by omega⟩
  · rw [e33, e34, e35]
    by_cases e : j = m
    · subst e; rw [eEm] at h2; rw [eF] at h1 ⊢; exact hnv i h1 h2
    · obtain ⟨x1, x2, x3⟩ := b.1 j (by omega)
      rw [frm_x eE (by omega)] at h1 ⊢
      rw [eE j (by omega)] at h2
      obtain ⟨y1, y2, y3⟩ := hnd i (by omega)
      rw [y1, y2, y3]
      exact b.2 j (by omega) i h1 h2
  · rw [e31]
    by_cases e : j = m
    · subst e; rw [upd_eq]; exact hr
    · rw [upd_ne e, hl 31 (by omega)]; exact b2 j (by omega)
  · rw [hs, w18, h18, c1]
    generalize lnT (u 30) (u 31) (u 33) (u 34) (u 35) E 0 (ov v0) m = l0
    match c, hc with
    | 0, _ => cases hb with
      | true => rw [if_pos rfl, if_pos rfl, if_pos ⟨rfl, rfl⟩]; lia
      | false => rw [if_neg Bool.false_ne_true, if_neg (fun e => Bool.false_ne_true e.2)]; lia
    | 1, _ => rw [if_neg (show ¬ (nI 1 = nI 0 ∧ hb = true) from fun e => absurd e.1 (by decide)), if_neg (show ¬ (1 : Nat) = 0 by decide)]; cases hb <;> simp only [Bool.false_eq_true, if_false, if_true] <;> lia
    | 2, _ => rw [if_neg (show ¬ (nI 2 = nI 0 ∧ hb = true) from fun e => absurd e.1 (by decide)), if_neg (show ¬ (2 : Nat) = 0 by decide)]; cases hb <;> simp only [Bool.false_eq_true, if_false, if_true] <;> lia
  · rw [hs, hs, w19, h19, c2]
    generalize lnT (u 30) (u 31) (u 33) (u 34) (u 35) E 1 (ov v0) m = l1
    generalize lnT (u 30) (u 31) (u 33) (u 34) (u 35) E 2 (ov v0) m = l2
    match c, hc with
    | 0, _ =>
      rw [if_neg (show ¬ (0 : Nat) = 1 by decide), if_neg (show ¬ (0 : Nat) = 2 by decide), if_neg (show ¬ (nI 0 = nI 1 ∧ hb = true) from fun e => absurd e.1 (by decide)), if_neg (show ¬ (nI 0 = nI 2 ∧ hb = true) from fun e => absurd e.1 (by decide))]
      cases hb <;> simp only [Bool.false_eq_true, if_false, if_true] <;> lia
    | 1, _ =>
      rw [if_pos (show (1 : Nat) = 1 from rfl), if_neg (show ¬ (nI 1 = nI 2 ∧ hb = true) from fun e => absurd e.1 (by decide))]
      cases hb with
      | true => rw [if_pos rfl, if_pos ⟨rfl, rfl⟩]; lia
      | false => rw [if_neg Bool.false_ne_true, if_neg (fun e => Bool.false_ne_true e.2)]; lia
    | 2, _ =>
      rw [if_neg (show ¬ (2 : Nat) = 1 by decide), if_pos (show (2 : Nat) = 2 from rfl), if_neg (show ¬ (nI 2 = nI 1 ∧ hb = true) from fun e => absurd e.1 (by decide))]
      cases hb with
      | true => rw [if_pos rfl, if_pos ⟨rfl, rfl⟩]; lia
      | false => rw [if_neg Bool.false_ne_true, if_neg (fun e => Bool.false_ne_true e.2)]; lia
