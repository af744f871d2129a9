def f_X10_odds (q : zq) (a1 a2 : Int32) (u : zU) : Option ((String ⊕ Int32) × zq × zU) :=
  z_bx (f_X10_needCradle q a1 u) (fun _ q1 u1 => z_bx (f_X10_needNumber q1 a2 1 5 u1) (fun _ q2 u2 => (f_X10_oddsBy a2 u2).bind (fun v => if z_in a1 8 = true then some (.inr (v a1.toNatClampNeg), q2, u2) else none)))
/-- a contract of the whole object's methods that make rows -/
def z_MTN (l : Launch) (D : zD) (A : Nat → Prop) (b : Nat) (G : zG) (n : Nat) (y : MethodName) (cc : ByteArray) (maxL : Nat) (ret : Option FieldType) (fr lo mc ms : Nat) (as : List Value) (q : zq) (u : zU) (v : Option Value) (q' : zq) (u' : zU) : Prop :=
  Met l y (.code y cc maxL ret :: wsA) { frames := fr, cells := mc, slots := ms, locals := lo } (z_PN D A b (zg G q) n as u) (z_QT D A b G v q' u') mc ms A
theorem z_W.sz {D : zD} {A : Nat → Prop} {b : Nat} {g : zG} {u : zU} {H : Heap} (hW : z_W D A b g u H) (k0 : (g 0).1 = 13) : H.size = b + (H.size - b) := by
  have := (hW 0).1.lt (by rw [k0]; decide)
  omega
theorem z_W.back {D : zD} {A : Nat → Prop} {b n : Nat} {g g1 : zG} {u u1 : zU} {H H0 : Heap} (hW : z_W D A b g1 u1 H) (hW0 : z_W D A b g u H0) (hZ : H0.size = b + n) (hlow : ∀ r', r' < n → g1 r' = g r' ∧ u1 r' = u r') : z_W D A b g u H := hW.fgt (fun r => by
  by_cases h : (g r).1 = 0
  · exact Or.inl h
  · exact Or.inr (hlow r (hW0.ltn hZ h)))
theorem zWh_ext {g g1 : zG} {w : Nat} {L : Nat → Nat} (h : zWh g w L) (he : ∀ r, (g r).1 ≠ 0 → g1 r = g r) : zWh g1 w L := by
  obtain ⟨h1, h2, h3, h4, h5⟩ := h
  have ew := he w (by rw [h1]; decide)
  have el := he (L 0) (by rw [h4]; decide)
  refine ⟨by rw [ew]; exact h1, fun j hj => ?_, by rw [ew]; exact h3, by rw [el]; exact h4, fun j hj0 hj => ?_⟩
  · obtain ⟨a1, a2, a3⟩ := h2 j hj
    have ej := he (w + (1 + j)) (by rw [a2]; decide)
    exact ⟨by rw [ew]; exact a1, by rw [ej]; exact a2, by rw [ej]; exact a3⟩
  · obtain ⟨a1, a2, a3⟩ := h5 j hj0 hj
    have ej := he (L j) (by rw [a2]; decide)
    exact ⟨by rw [el]; exact a1, by rw [ej]; exact a2, by rw [ej]; exact a3⟩
theorem c_X10_odds (l : Launch) (D : zD) (A : Nat → Prop) (b : Nat) (G : zG) (n : Nat) (q : zq) (hT : zTop G q) (a1 a2 : Int32) (u : zU) {v : Int32} {q' : zq} {u' : zU} (h : f_X10_odds q a1 a2 u = some (.inr v, q', u')) : z_MTN l D A b G n yX10_odds cX10_odds 3 (some .int) 7 112 7 56 [.ref (b + 0), .int a1, .int a2] q u (some (.int v)) q' u' := by
  refine z_enterG (by decide) (Nat.le_of_ble_eq_true rfl) ?_
  intro p e s m below meth c ls C0 hr hml hlk hK2 hZ hA hW hS hl
  have hl : lv_has ls 3 [(0, .ref (b + 0)), (1, .int a1), (2, .int a2)] := hl
  have hx := C0.1
  have hb := C0.2.1
  clear hZ
  unfold f_X10_odds at h
  refine lv_iload_n hx hb dX10_odds_0 rfl (lv_at hl 1 rfl) ?_
  replace h := z_bxd h
  rcases h with ⟨E1, hq, hE⟩ | ⟨w1, q1, u1, hq, h⟩
  · cases hE
  refine z_csTv (As := [.int a1]) C0 hml hl.1 hW hS (c_X10_needCradle l D A b G q hT a1 u hq) ms_X10_174 ⟨Nat.le_of_ble_eq_true rfl, Nat.le_of_ble_eq_true rfl⟩ rfl rfl (Nat.le_of_ble_eq_true rfl) dX10_odds_1 (fun H locs hW hS hT => ?_)
  clear hq
  refine lv_iload_n hx hb dX10_odds_4 rfl (lv_at hl 2 rfl) ?_
  refine lv_iconst (v := (1 : Int32)) hx hb dX10_odds_5 (by decide) ?_
  refine lv_iconst (v := (5 : Int32)) hx hb dX10_odds_6 (by decide) ?_
  replace h := z_bxd h
  rcases h with ⟨E1, hq, hE⟩ | ⟨w1, q2, u2, hq, h⟩
  · cases hE
  refine z_csTv (As := [.int a2, .int 1, .int 5]) C0 hml hl.1 hW hS (c_X10_needNumber l D A b G q1 hT a2 1 5 u1 hq) ms_X10_287 ⟨Nat.le_of_ble_eq_true rfl, Nat.le_of_ble_eq_true rfl⟩ rfl rfl (Nat.le_of_ble_eq_true rfl) dX10_odds_7 (fun H locs hW hS hT => ?_)
  clear hq
  have hs := hT.1
  replace h := z_bd h
  obtain ⟨v1, hq, h⟩ := h
  replace h := z_if h
  obtain ⟨hin, h⟩ := h
  have k0 := zk1 (hs 0 (by decide))
  have hZ := hW.sz k0
  refine lv_aload_n hx hb dX10_odds_10 rfl (lv_at hl 0 rfl) ?_
  refine lv_iload_n hx hb dX10_odds_11 rfl (lv_at hl 2 rfl) ?_
  refine z_cO C0 hK2 hml hl.1 hW hS hZ hA (c_X10_oddsBy l D A b (zg G q2) _ k0 (zk3 (hs 0 (by decide)) 2) (zT0 hT).1 a2 u2 hq) k0 ⟨Nat.le_of_ble_eq_true rfl, Nat.le_of_ble_eq_true rfl⟩ ⟨Nat.le_of_ble_eq_true rfl, Nat.le_of_ble_eq_true rfl⟩ (Nat.le_of_ble_eq_true rfl) dX10_odds_12 (fun H1 locs r g1 u3 hW1 hS hlow hn hgr hur => ?_)
  refine lv_iload_n hx hb dX10_odds_15 rfl (lv_at hl 1 rfl) ?_
  refine z_iald (n := 8) C0 hW1 (zk1 hgr) (zk2 hgr) hin rfl dX10_odds_16 ?_
  rw [hur]
  cases h
  exact W.iret hx hb hr (fun t ht _ => ⟨rfl, by rw [ht]; exact hW1.back hW hZ hlow, hS.F ht, hT⟩) hS.2.2 dX10_odds_17 hlk
theorem t_X10_odds (l : Launch) (D : zD) (A : Nat → Prop) (b : Nat) (G : zG) (q : zq) (hT : zTop G q) (hst : l.stackTraces = false) (a1 a2 : Int32) (u : zU) {E : String} {q' : zq} {u' : zU} (h : f_X10_odds q a1 a2 u = some (.inl E, q', u')) : z_TX l D A b G yX10_odds cX10_odds 3 (some .int) 7 112 [.ref (b + 0), .int a1, .int a2] q u E q' u' := by
  refine z_enterX (by decide) (Nat.le_of_ble_eq_true rfl) ?_
  intro p e s m below meth c ls C0 hex hml hlk hW hS hl
  have hl : lv_has ls 3 [(0, .ref (b + 0)), (1, .int a1), (2, .int a2)] := hl
  have hx := C0.1
  have hb := C0.2.1
  unfold f_X10_odds at h
  refine lv_iload_n hx hb dX10_odds_0 rfl (lv_at hl 1 rfl) ?_
  replace h := z_bxd h
  rcases h with ⟨E1, hq, hE⟩ | ⟨w1, q1, u1, hq, h⟩
  · cases hE
    exact z_csX (As := [.int a1]) C0 hml hl.1 hW hS hex hlk (t_X10_needCradle l D A b G q hT hst a1 u hq) ms_X10_174 ⟨Nat.le_of_ble_eq_true rfl, Nat.le_of_ble_eq_true rfl⟩ ⟨Nat.le_of_ble_eq_true rfl, Nat.le_of_ble_eq_true rfl⟩ rfl rfl (Nat.le_of_ble_eq_true rfl) dX10_odds_1
  refine z_csTv (As := [.int a1]) C0 hml hl.1 hW hS (c_X10_needCradle l D A b G q hT a1 u hq) ms_X10_174 ⟨Nat.le_of_ble_eq_true rfl, Nat.le_of_ble_eq_true rfl⟩ rfl rfl (Nat.le_of_ble_eq_true rfl) dX10_odds_1 (fun H locs hW hS hT => ?_)
  clear hq
  refine lv_iload_n hx hb dX10_odds_4 rfl (lv_at hl 2 rfl) ?_
  refine lv_iconst (v := (1 : Int32)) hx hb dX10_odds_5 (by decide) ?_
  refine lv_iconst (v := (5 : Int32)) hx hb dX10_odds_6 (by decide) ?_
  replace h := z_bxd h
  rcases h with ⟨E1, hq, hE⟩ | ⟨w1, q2, u2, hq, h⟩
  · cases hE
    exact z_csX (As := [.int a2, .int 1, .int 5]) C0 hml hl.1 hW hS hex hlk (t_X10_needNumber l D A b G q1 hT hst a2 1 5 u1 hq) ms_X10_287 ⟨Nat.le_of_ble_eq_true rfl, Nat.le_of_ble_eq_true rfl⟩ ⟨Nat.le_of_ble_eq_true rfl, Nat.le_of_ble_eq_true rfl⟩ rfl rfl (Nat.le_of_ble_eq_true rfl) dX10_odds_7
  replace h := z_bd h
  obtain ⟨v1, hq, h⟩ := h
  replace h := z_if h
  cases h.2
