theorem zal_c {g g' : zG} {n r : Nat} {q : zQ} (h : r ≠ n → g r = g' r) : zal g n q r = zal g' n q r := by
  unfold zal
  by_cases e : r = n
  · rw [if_pos e, if_pos e]
  · rw [if_neg e, if_neg e]; exact h e
theorem zgs_c {g g' : zG} {r r' k o : Nat} (h : g r' = g' r') : zgs g r k o r' = zgs g' r k o r' := by
  unfold zgs
  by_cases e : r' = r
  · subst e; rw [if_pos rfl, if_pos rfl, h]
  · rw [if_neg e, if_neg e]; exact h
theorem gLw_c {g g' : zG} {w n N M r : Nat} (h : g r = g' r) : gLw g w n N M r = gLw g' w n N M r := by
  unfold gLw
  exact zgs_c (zal_c fun _ => zgs_c (zal_c fun _ => zgs_c (zal_c fun _ => zgs_c (zal_c fun _ => zgs_c (zal_c fun _ => zgs_c (zal_c fun _ => zgs_c (zal_c fun _ => h)))))))
theorem gLw_n {g : zG} {w n N M r : Nat} (h : r < n) (hw : r ≠ w) : gLw g w n N M r = g r := by
  unfold gLw
  rw [zgs_o _ _ hw, zal_n _ _ (by omega), zgs_o _ _ hw, zal_n _ _ (by omega), zgs_o _ _ hw, zal_n _ _ (by omega), zgs_o _ _ hw, zal_n _ _ (by omega), zgs_o _ _ hw, zal_n _ _ (by omega), zgs_o _ _ hw, zal_n _ _ (by omega), zgs_o _ _ hw, zal_n _ _ (by omega)]
/-- the new law's regions: its object at n, its rows behind it -/
def zLn (n N M : Nat) : Nat → Nat := fun j => if j < 8 then n + j else if j = 8 then N else M
theorem gLw_law (g : zG) (n N M : Nat) : zLw (gLw (zal g n (8, 0, zNo)) n (n + 1) N M) (zLn n N M) := by
  refine ⟨?_, fun j h0 h8 => ?_⟩
  · show (gLw (zal g n (8, 0, zNo)) n (n + 1) N M (n + 0)).1 = 8
    unfold gLw
    simp only [zgs_1, Nat.add_zero]
    rw [zal_n1 _ _ (by omega), zgs_1, zal_n1 _ _ (by omega), zgs_1, zal_n1 _ _ (by omega), zgs_1, zal_n1 _ _ (by omega), zgs_1, zal_n1 _ _ (by omega), zgs_1, zal_n1 _ _ (by omega), zgs_1, zal_n1 _ _ (by omega), zal_e1]
  · have hj : zLn n N M j = n + j := if_pos h8
    have h00 : zLn n N M 0 = n := rfl
    have h88 : zLn n N M 8 = N := rfl
    have h99 : zLn n N M 9 = M := rfl
    rw [hj, h00, h88, h99]
    match j, h0, h8 with
    | 1, _, _ => refine ⟨?_, ?_, ?_⟩ <;> (unfold gLw; simp only [Nat.add_assoc, Nat.reduceAdd]; simp (discharger := omega) [zgs_1, zgs_2, zal_e1, zal_n1, zal_e2, zal_n2, zgs_e, zgs_n, zgs_r, zal_e3, zal_n3])
    | 2, _, _ => refine ⟨?_, ?_, ?_⟩ <;> (unfold gLw; simp only [Nat.add_assoc, Nat.reduceAdd]; simp (discharger := omega) [zgs_1, zgs_2, zal_e1, zal_n1, zal_e2, zal_n2, zgs_e, zgs_n, zgs_r, zal_e3, zal_n3])
    | 3, _, _ => refine ⟨?_, ?_, ?_⟩ <;> (unfold gLw; simp only [Nat.add_assoc, Nat.reduceAdd]; simp (discharger := omega) [zgs_1, zgs_2, zal_e1, zal_n1, zal_e2, zal_n2, zgs_e, zgs_n, zgs_r, zal_e3, zal_n3])
    | 4, _, _ => refine ⟨?_, ?_, ?_⟩ <;> (unfold gLw; simp only [Nat.add_assoc, Nat.reduceAdd]; simp (discharger := omega) [zgs_1, zgs_2, zal_e1, zal_n1, zal_e2, zal_n2, zgs_e, zgs_n, zgs_r, zal_e3, zal_n3])
    | 5, _, _ => refine ⟨?_, ?_, ?_⟩ <;> (unfold gLw; simp only [Nat.add_assoc, Nat.reduceAdd]; simp (discharger := omega) [zgs_1, zgs_2, zal_e1, zal_n1, zal_e2, zal_n2, zgs_e, zgs_n, zgs_r, zal_e3, zal_n3])
    | 6, _, _ => refine ⟨?_, ?_, ?_⟩ <;> (unfold gLw; simp only [Nat.add_assoc, Nat.reduceAdd]; simp (discharger := omega) [zgs_1, zgs_2, zal_e1, zal_n1, zal_e2, zal_n2, zgs_e, zgs_n, zgs_r, zal_e3, zal_n3])
    | 7, _, _ => refine ⟨?_, ?_, ?_⟩ <;> (unfold gLw; simp only [Nat.add_assoc, Nat.reduceAdd]; simp (discharger := omega) [zgs_1, zgs_2, zal_e1, zal_n1, zal_e2, zal_n2, zgs_e, zgs_n, zgs_r, zal_e3, zal_n3])
theorem st_nz : ∀ r ∈ zStL, (gS r).1 ≠ 0 := by decide
theorem wi_big {r : Nat} (h : 222 ≤ r) : wi r = none := by
  unfold wi
  rw [if_neg (by omega), if_neg (by omega), if_neg (by omega)]
theorem zTop_nz {G : zG} {q : zq} (h : zTop G q) {r k : Nat} (hk : (zg G q r).1 = k) (h0 : k ≠ 0) : (G r).1 ≠ 0 := by
  rw [zg_1] at hk
  rw [hk]
  exact h0
theorem zTop_new {G G' : zG} {q : zq} (h : zTop G q) (hext : ∀ r, (G r).1 ≠ 0 → G' r = G r) {L : Nat → Nat} (hL : zLw (zg G' (zup q 0 L)) L) : zTop G' (zup q 0 L) := by
  have k1 : ∀ {r k : Nat}, (zg G q r).1 = k → k ≠ 0 → (zg G' (zup q 0 L) r).1 = k := fun {r k} hk h0 => by
    have := hk
    rw [zg_1] at this ⊢
    rw [hext r (by rw [this]; exact h0)]
    exact this
  have k2 : ∀ {r k n : Nat}, (zg G q r).1 = k → k ≠ 0 → (zg G q r).2.1 = n → (zg G' (zup q 0 L) r).2.1 = n := fun {r k n} hk h0 hn => by
    rw [zg_1] at hk
    rw [zg_2] at hn ⊢
    rw [hext r (by rw [hk]; exact h0)]
    exact hn
  have k3 : ∀ {r k j : Nat} {o : Option Nat}, (zg G q r).1 = k → k ≠ 0 → j ≠ 19 → (zg G q r).2.2 j = o → (zg G' (zup q 0 L) r).2.2 j = o := fun {r k j o} hk h0 hj hn => by
    rw [zg_1] at hk
    rw [zg_3 _ _ _ hj] at hn ⊢
    rw [hext r (by rw [hk]; exact h0)]
    exact hn
  have kj : ∀ {j : Nat}, zJn (zg G q) j → zJn (zg G' (zup q 0 L)) j := fun {j} hj => ⟨k1 hj.1 (by decide), k3 hj.1 (by decide) (by decide) hj.2.1, k1 hj.2.2.1 (by decide), k2 hj.2.2.1 (by decide) hj.2.2.2⟩
  obtain ⟨h1, h2, h3, h4⟩ := h
  refine ⟨fun r hr => ?_, fun i hi => ?_, kj h3, fun k hk => ?_⟩
  · have e := h1 r hr
    rw [zg_n _ _ (wi_st r hr)] at e ⊢
    rw [hext r (by rw [e]; exact st_nz r hr)]
    exact e
  · obtain ⟨a1, a2, a3, a4, a5⟩ := h2 i hi
    refine ⟨k1 a1 (by decide), fun j hj => ?_, zg_r G' _ hi, ?_⟩
    · obtain ⟨b1, b2, b3⟩ := a2 j hj
      exact ⟨k3 a1 (by decide) (by omega) b1, k1 b2 (by decide), k2 b2 (by decide) b3⟩
    · by_cases e : i = 0
      · subst e
        have : zup q 0 L 0 = L := if_pos rfl
        rw [this]
        exact hL
      · have : zup q 0 L i = q i := if_neg e
        rw [this]
        refine ⟨k1 a4 (by decide), fun j j0 j8 => ?_⟩
        obtain ⟨b1, b2, b3⟩ := a5 j j0 j8
        exact ⟨k3 a4 (by decide) (by omega) b1, k1 b2 (by decide), k2 b2 (by decide) b3⟩
  · obtain ⟨a1, a2, a3, a4⟩ := h4 k hk
    exact ⟨k1 a1 (by decide), k3 a1 (by decide) (by decide) a2, k3 a1 (by decide) (by decide) a3, kj a4⟩
def gNew (G : zG) (n N M : Nat) : zG := gLw (zal G n (8, 0, zNo)) n (n + 1) N M
theorem gNew_n {G : zG} {n N M r : Nat} (h : r < n) : gNew G n N M r = G r := by
  unfold gNew
  rw [gLw_n (by omega) (by omega), zal_n _ _ (by omega)]
theorem gNew_zg {G : zG} {q : zq} {n N M : Nat} (hn : 222 ≤ n) : zgs (gLw (zal (zg G q) n (8, 0, zNo)) n (n + 1) N M) 6 19 n = zg (gNew G n N M) (zup q 0 (zLn n N M)) := by
  have e0 : gLw (zal (zg G q) n (8, 0, zNo)) n (n + 1) N M = zg (gNew G n N M) q := by
    funext r
    by_cases hr : r < n
    · rw [gLw_n (by omega) (by omega), zal_n _ _ (by omega)]
      unfold zg
      rw [gNew_n hr]
    · rw [zg_n _ _ (wi_big (by omega))]
      refine gLw_c (zal_c fun _ => ?_)
      exact zg_n _ _ (wi_big (by omega))
  rw [e0]
  exact zgs_zg (gNew G n N M) q (i := 0) (by decide) (zLn n N M)
def f_X10_law (n : Nat) (q : zq) (u : zU) : Option ((String ⊕ Int32) × zq × zU) :=
  (f_X6_readL (f_X5_clear u)).bind (fun u2 => z_bx (f_X10_useText q u2) (fun _ q3 u3 => if (¬ u3 29 8 < 0 ∧ (u3 29 8).toNatClampNeg ≤ 12) ∧ ¬ u3 29 9 < 0 ∧ (u3 29 9).toNatClampNeg ≤ 400 then
    (let u5 := f_X0_forget (zup q3 0 (zLn n (u3 29 8).toNatClampNeg (u3 29 9).toNatClampNeg)) (uLw (zst u3 n zO0) n (n + 1))
     some (.inr (u5 n 0), zup q3 0 (zLn n (u3 29 8).toNatClampNeg (u3 29 9).toNatClampNeg), u5)) else none))
def z_QL (D : zD) (A : Nat → Prop) (b : Nat) (G : zG) (q : zq) (u : zU) (v : Int32) : Array Value → State → Outcome → State → Prop := fun _ st o t => ∃ (n : Nat) (G' : zG) (q' : zq) (u' : zU), o = .returned (some (.int v)) ∧ 222 ≤ n ∧ (∀ r, (G r).1 ≠ 0 → r < n) ∧ f_X10_law n q u = some (.inr v, q', u') ∧ z_W D A b (zg G' q') u' t.heap ∧ va_F A st t ∧ zTop G' q'
theorem f_useText_eq {q q' : zq} {u u' : zU} {w : Unit} (h : f_X10_useText q u = some (.inr w, q', u')) : q = q' := by
  unfold f_X10_useText at h
  simp only [z_let] at h
  split at h
  · cases h; rfl
  · cases h
theorem zTop_221 {G : zG} {q : zq} (h : zTop G q) : (zg G q 221).1 = 1 := (h.2.2.2 12 (by decide)).2.2.2.2.2.1
set_option maxRecDepth 100000 in
theorem c_X10_law (l : Launch) (D : zD) (A : Nat → Prop) (b : Nat) (G : zG) (n0 : Nat) (q : zq) (hT : zTop G q) (u : zU) {v : Int32} (h : ∀ n, 222 ≤ n → ∃ (q' : zq) (u' : zU), f_X10_law n q u = some (.inr v, q', u')) :
    Met l yX10_law (.code yX10_law cX10_law 1 (some .int) :: wsA) { frames := 40, cells := 8, slots := 1644, locals := 1400 } (z_PN D A b (zg G q) n0 [.ref (b + 0)] u) (z_QL D A b G q u v) 8 1644 A := by
  refine z_enterG (by decide) (Nat.le_of_ble_eq_true rfl) ?_
  intro p e s m below meth c ls C0 hr hml hlk hK2 hZ hA hW hS hl
  have hl : lv_has ls 1 [(0, .ref (b + 0))] := hl
  have hx := C0.1
  have hb := C0.2.1
  have hs := hT.1
  clear hZ
  refine lv_aload_n hx hb dX10_law_0 rfl (lv_at hl 0 rfl) ?_
  refine z_getr (o := 29) C0 hW fl_X10_49 (zk1 (hs 0 (by decide))) rfl (zk3 (hs 0 (by decide)) 5) dX10_law_1 ?_
  refine z_cvv (As := []) C0 hml hl.1 hW hS (c_X5_clear l D A b (zg G q) hs u rfl) mv_X10_112 (zk1 (hs 29 (by decide))) ⟨Nat.le_of_ble_eq_true rfl, Nat.le_of_ble_eq_true rfl⟩ rfl rfl (Nat.le_of_ble_eq_true rfl) dX10_law_4 (fun H locs hW hS => ?_)
  refine lv_aload_n hx hb dX10_law_7 rfl (lv_at hl 0 rfl) ?_
  refine z_getr (o := 29) C0 hW fl_X10_49 (zk1 (hs 0 (by decide))) rfl (zk3 (hs 0 (by decide)) 5) dX10_law_8 ?_
  have hq0 : ∃ u2, f_X6_readL (f_X5_clear u) = some u2 := by
    obtain ⟨_, _, h⟩ := h 222 (Nat.le_refl _)
    unfold f_X10_law at h
    obtain ⟨u2, h2, -⟩ := z_bd h
    exact ⟨u2, h2⟩
  obtain ⟨u2, hq⟩ := hq0
  refine z_cuv (As := []) C0 hml hl.1 hW hS (c_X6_readL l D A b (zg G q) hs _ hq) mu_X10_115_X5 rfl (zk1 (hs 29 (by decide))) ⟨Nat.le_of_ble_eq_true rfl, Nat.le_of_ble_eq_true rfl⟩ rfl rfl (Nat.le_of_ble_eq_true rfl) dX10_law_11 (fun H locs hW hS => ?_)
  refine lv_aload_n hx hb dX10_law_14 rfl (lv_at hl 0 rfl) ?_
  have hq3 : ∃ u3, f_X10_useText q u2 = some (.inr (), q, u3) := by
    obtain ⟨_, _, h⟩ := h 222 (Nat.le_refl _)
    unfold f_X10_law at h
    rw [hq, Option.bind_some] at h
    rcases z_bxd h with ⟨E1, -, hE⟩ | ⟨r, q1, u1, h1, -⟩
    · cases hE
    · have := f_useText_eq h1
      subst this
      exact ⟨u1, h1⟩
  obtain ⟨u3, hq3⟩ := hq3
  refine z_cvTv (As := []) C0 hml hl.1 hW hS (c_X10_useText l D A b G q hT u2 hq3) mv_X10_99 (zk1 (hs 0 (by decide))) ⟨Nat.le_of_ble_eq_true rfl, Nat.le_of_ble_eq_true rfl⟩ rfl rfl (Nat.le_of_ble_eq_true rfl) dX10_law_15 (fun H locs hW hS hT => ?_)
  have k0 := zk1 (hs 0 (by decide))
  have hZ := hW.sz k0
  obtain ⟨n, hn⟩ : ∃ n, n = H.size - b := ⟨_, rfl⟩
  rw [← hn] at hZ
  have hltn : ∀ r, (G r).1 ≠ 0 → r < n := fun r hr => hW.ltn hZ (by rw [zg_1]; exact hr)
  have hn2 : 222 ≤ n := hW.ltn hZ (r := 221) (by rw [zTop_221 hT]; decide)
  obtain ⟨q', u', h⟩ := h n hn2
  have hL := h
  unfold f_X10_law at h
  rw [hq, Option.bind_some, hq3] at h
  replace h := z_if (show (if (¬ u3 29 8 < 0 ∧ (u3 29 8).toNatClampNeg ≤ 12) ∧ ¬ u3 29 9 < 0 ∧ (u3 29 9).toNatClampNeg ≤ 400 then _ else none) = some _ from h)
  obtain ⟨⟨⟨hN0, hN1⟩, hM0, hM1⟩, h⟩ := h
  refine lv_aload_n hx hb dX10_law_18 rfl (lv_at hl 0 rfl) ?_
  refine z_getr (o := 6) C0 hW fl_X10_28 k0 rfl (zk3 (hs 0 (by decide)) 2) dX10_law_19 ?_
  refine z_newO C0 hW hS hA hZ nw_X10_116 ⟨Nat.le_of_ble_eq_true rfl, Nat.le_of_ble_eq_true rfl⟩ dX10_law_22 (fun H hW hS hZ => ?_)
  have ez : ∀ r, r < n → zal (zg G q) n (8, 0, zNo) r = zg G q r := fun r hr => zal_n _ _ (by omega)
  have eu : ∀ r, r < n → zst u3 n zO0 r = u3 r := fun r hr => zst_n (by omega)
  refine lv_dup hx hb dX10_law_25 rfl ?_
  refine lv_aload_n hx hb dX10_law_26 rfl (lv_at hl 0 rfl) ?_
  refine z_getr (o := 29) C0 hW fl_X10_49 (by rw [ez 0 (by omega)]; exact k0) rfl (by rw [ez 0 (by omega)]; exact zk3 (hs 0 (by decide)) 5) dX10_law_27 ?_
  have e29 := eu 29 (by omega)
  refine z_cI (As := [.ref (b + 29)]) C0 hK2 hml hl.1 hW hS hZ hA (c_X4_init_ l D A b _ _ n (n + 1) (u3 29 8).toNatClampNeg (u3 29 9).toNatClampNeg (by rw [zal_e1]) (by omega) (by omega) (by omega) (by rw [ez 29 (by omega)]; exact hs 29 (by decide)) (fun j hj => ?_) (fun j hj => ?_) ⟨by rw [e29], by rw [e29]; exact hN0⟩ hN1 ⟨by rw [e29], by rw [e29]; exact hM0⟩ hM1) yi_X10_118 ⟨Nat.le_of_ble_eq_true rfl, Nat.le_of_ble_eq_true rfl⟩ ⟨by show 0 + 1 + 7 ≤ 8; omega, by show 0 + 8 + _ ≤ 1644; omega⟩ rfl rfl (Nat.le_of_ble_eq_true rfl) dX10_law_30 (fun H locs hW hS hZ => ?_)
  · rw [ez _ (by omega)]
    match j, hj with
    | 0, _ => exact hs 30 (by decide)
    | 1, _ => exact hs 31 (by decide)
    | 2, _ => exact hs 32 (by decide)
  · rw [ez _ (by omega)]
    match j, hj with
    | 0, _ => exact hs 33 (by decide)
    | 1, _ => exact hs 34 (by decide)
    | 2, _ => exact hs 35 (by decide)
  · have e6 : gLw (zal (zg G q) n (8, 0, zNo)) n (n + 1) (u3 29 8).toNatClampNeg (u3 29 9).toNatClampNeg 6 = zg G q 6 := by rw [gLw_n (by omega) (by omega), zal_n _ _ (by omega)]
    refine z_putrN C0 hW hS hZ fl_X10_121 (by rw [e6]; exact (zT0 hT).1) rfl rfl rfl dX10_law_33 (fun H locs hW hS hZ => ?_)
    rw [gNew_zg hn2] at hW
    have hext : ∀ r, (G r).1 ≠ 0 → gNew G n (u3 29 8).toNatClampNeg (u3 29 9).toNatClampNeg r = G r := fun r hr => gNew_n (hltn r hr)
    have hlaw : zLw (zg (gNew G n (u3 29 8).toNatClampNeg (u3 29 9).toNatClampNeg) (zup q 0 (zLn n (u3 29 8).toNatClampNeg (u3 29 9).toNatClampNeg))) (zLn n (u3 29 8).toNatClampNeg (u3 29 9).toNatClampNeg) := by
      have e : ∀ j, j < 8 → zg (gNew G n (u3 29 8).toNatClampNeg (u3 29 9).toNatClampNeg) (zup q 0 (zLn n (u3 29 8).toNatClampNeg (u3 29 9).toNatClampNeg)) (zLn n (u3 29 8).toNatClampNeg (u3 29 9).toNatClampNeg j) = gNew G n (u3 29 8).toNatClampNeg (u3 29 9).toNatClampNeg (zLn n (u3 29 8).toNatClampNeg (u3 29 9).toNatClampNeg j) := fun j hj => zg_n _ _ (wi_big (by unfold zLn; rw [if_pos hj]; omega))
      obtain ⟨l1, l2⟩ := gLw_law G n (u3 29 8).toNatClampNeg (u3 29 9).toNatClampNeg
      refine ⟨by rw [e 0 (by decide)]; exact l1, fun j j0 j8 => ?_⟩
      rw [e 0 (by decide), e j j8]
      exact l2 j j0 j8
    have hT2 := zTop_new hT hext hlaw
    have hs2 := hT2.1
    refine lv_aload_n hx hb dX10_law_36 rfl (lv_at hl 0 rfl) ?_
    refine z_getr (o := 38) C0 hW fl_X10_63 (zk1 (hs2 0 (by decide))) rfl (zk3 (hs2 0 (by decide)) 7) dX10_law_37 ?_
    refine z_cvG (v := none) (As := []) (rest := []) C0 hml hl.1 hW hS (c_X0_forget l D A b _ _ hT2 _ rfl) mv_X10_109 (zk1 (hs2 38 (by decide))) ⟨Nat.le_of_ble_eq_true rfl, Nat.le_of_ble_eq_true rfl⟩ ⟨by show 0 + 1 + 7 ≤ 8; omega, by show 0 + 8 + _ ≤ 1644; omega⟩ rfl rfl (Nat.le_of_ble_eq_true rfl) dX10_law_40 (fun H locs hW hS => ?_)
    show W p l e _ s m _ below meth c H locs _ _ _ (F0 m 43 ls [])
    refine lv_aload_n hx hb dX10_law_43 rfl (lv_at hl 0 rfl) ?_
    refine z_getr (o := 6) C0 hW fl_X10_28 (zk1 (hs2 0 (by decide))) rfl (zk3 (hs2 0 (by decide)) 2) dX10_law_44 ?_
    refine z_getr (o := n) C0 hW fl_X10_121 (zT0 hT2).1 rfl (zT0 hT2).2.2.1 dX10_law_47 ?_
    refine z_geti C0 hW fl_X10_125 (zT0 hT2).2.2.2.1 rfl dX10_law_50 ?_
    cases h
    refine W.widen (k := 8) (n := 1644) (by omega) (by omega) ?_
    exact W.iret hx hb hr (fun t ht _ => ⟨n, _, _, _, rfl, hn2, hltn, hL, by rw [ht]; exact hW, hS.F ht, hT2⟩) hS.2.2 dX10_law_53 hlk
