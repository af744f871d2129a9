/-! PURE, 19: copies -/
theorem z_cp_ne {u : zU} {a b n r : Nat} (h : r ≠ b) : z_cp u a b n r = u r := if_neg h
theorem z_cp_i {u : zU} {a b n j : Nat} (hj : j < n) : z_cp u a b n b j = u a j := by
  unfold z_cp
  rw [if_pos rfl]
  exact if_pos hj
theorem kap_i : ∀ k, k < 65 → ∀ q, q ∈ kap k → (q.1 = 0 → 8 ≤ q.2 ∧ q.2 ≤ 16) ∧ (1 ≤ q.1 → q.1 ≤ 6 → q.2 < 8) ∧ (q.1 = 7 → q.2 < 4) := by decide +kernel
theorem pc_cp1 {u : zU} {w w2 : Nat} (L L2 : Nat → Nat) (hd : w2 + 9 ≤ w ∨ w + 9 ≤ w2) {i : Nat} (hi : i < 8) : f_X9_copy w L w2 L2 u (w + 1) i = u (w2 + 1) i := by
  rw [f_X9_copy_e]
  simp only [z_let, z_up_ne (show w + 1 ≠ w by omega), z_cp_ne (show w + 1 ≠ w + 2 by omega), z_cp_ne (show w + 1 ≠ w + 3 by omega), z_cp_ne (show w + 1 ≠ w + 4 by omega), z_cp_ne (show w + 1 ≠ w + 5 by omega), z_cp_ne (show w + 1 ≠ w + 6 by omega), z_cp_ne (show w + 1 ≠ w + 7 by omega)]
  rw [z_cp_i hi]
  (try simp only [z_cp_ne (show w2 + 1 ≠ w + 1 by omega), z_cp_ne (show w2 + 1 ≠ w + 2 by omega), z_cp_ne (show w2 + 1 ≠ w + 3 by omega), z_cp_ne (show w2 + 1 ≠ w + 4 by omega), z_cp_ne (show w2 + 1 ≠ w + 5 by omega), z_cp_ne (show w2 + 1 ≠ w + 6 by omega), z_cp_ne (show w2 + 1 ≠ w + 7 by omega)])
theorem pc_cp2 {u : zU} {w w2 : Nat} (L L2 : Nat → Nat) (hd : w2 + 9 ≤ w ∨ w + 9 ≤ w2) {i : Nat} (hi : i < 8) : f_X9_copy w L w2 L2 u (w + 2) i = u (w2 + 2) i := by
  rw [f_X9_copy_e]
  simp only [z_let, z_up_ne (show w + 2 ≠ w by omega), z_cp_ne (show w + 2 ≠ w + 1 by omega), z_cp_ne (show w + 2 ≠ w + 3 by omega), z_cp_ne (show w + 2 ≠ w + 4 by omega), z_cp_ne (show w + 2 ≠ w + 5 by omega), z_cp_ne (show w + 2 ≠ w + 6 by omega), z_cp_ne (show w + 2 ≠ w + 7 by omega)]
  rw [z_cp_i hi]
  (try simp only [z_cp_ne (show w2 + 2 ≠ w + 1 by omega), z_cp_ne (show w2 + 2 ≠ w + 2 by omega), z_cp_ne (show w2 + 2 ≠ w + 3 by omega), z_cp_ne (show w2 + 2 ≠ w + 4 by omega), z_cp_ne (show w2 + 2 ≠ w + 5 by omega), z_cp_ne (show w2 + 2 ≠ w + 6 by omega), z_cp_ne (show w2 + 2 ≠ w + 7 by omega)])
theorem pc_cp3 {u : zU} {w w2 : Nat} (L L2 : Nat → Nat) (hd : w2 + 9 ≤ w ∨ w + 9 ≤ w2) {i : Nat} (hi : i < 8) : f_X9_copy w L w2 L2 u (w + 3) i = u (w2 + 3) i := by
  rw [f_X9_copy_e]
  simp only [z_let, z_up_ne (show w + 3 ≠ w by omega), z_cp_ne (show w + 3 ≠ w + 1 by omega), z_cp_ne (show w + 3 ≠ w + 2 by omega), z_cp_ne (show w + 3 ≠ w + 4 by omega), z_cp_ne (show w + 3 ≠ w + 5 by omega), z_cp_ne (show w + 3 ≠ w + 6 by omega), z_cp_ne (show w + 3 ≠ w + 7 by omega)]
  rw [z_cp_i hi]
  (try simp only [z_cp_ne (show w2 + 3 ≠ w + 1 by omega), z_cp_ne (show w2 + 3 ≠ w + 2 by omega), z_cp_ne (show w2 + 3 ≠ w + 3 by omega), z_cp_ne (show w2 + 3 ≠ w + 4 by omega), z_cp_ne (show w2 + 3 ≠ w + 5 by omega), z_cp_ne (show w2 + 3 ≠ w + 6 by omega), z_cp_ne (show w2 + 3 ≠ w + 7 by omega)])
theorem pc_cp4 {u : zU} {w w2 : Nat} (L L2 : Nat → Nat) (hd : w2 + 9 ≤ w ∨ w + 9 ≤ w2) {i : Nat} (hi : i < 8) : f_X9_copy w L w2 L2 u (w + 4) i = u (w2 + 4) i := by
  rw [f_X9_copy_e]
  simp only [z_let, z_up_ne (show w + 4 ≠ w by omega), z_cp_ne (show w + 4 ≠ w + 1 by omega), z_cp_ne (show w + 4 ≠ w + 2 by omega), z_cp_ne (show w + 4 ≠ w + 3 by omega), z_cp_ne (show w + 4 ≠ w + 5 by omega), z_cp_ne (show w + 4 ≠ w + 6 by omega), z_cp_ne (show w + 4 ≠ w + 7 by omega)]
  rw [z_cp_i hi]
  (try simp only [z_cp_ne (show w2 + 4 ≠ w + 1 by omega), z_cp_ne (show w2 + 4 ≠ w + 2 by omega), z_cp_ne (show w2 + 4 ≠ w + 3 by omega), z_cp_ne (show w2 + 4 ≠ w + 4 by omega), z_cp_ne (show w2 + 4 ≠ w + 5 by omega), z_cp_ne (show w2 + 4 ≠ w + 6 by omega), z_cp_ne (show w2 + 4 ≠ w + 7 by omega)])
theorem pc_cp5 {u : zU} {w w2 : Nat} (L L2 : Nat → Nat) (hd : w2 + 9 ≤ w ∨ w + 9 ≤ w2) {i : Nat} (hi : i < 8) : f_X9_copy w L w2 L2 u (w + 5) i = u (w2 + 5) i := by
  rw [f_X9_copy_e]
  simp only [z_let, z_up_ne (show w + 5 ≠ w by omega), z_cp_ne (show w + 5 ≠ w + 1 by omega), z_cp_ne (show w + 5 ≠ w + 2 by omega), z_cp_ne (show w + 5 ≠ w + 3 by omega), z_cp_ne (show w + 5 ≠ w + 4 by omega), z_cp_ne (show w + 5 ≠ w + 6 by omega), z_cp_ne (show w + 5 ≠ w + 7 by omega)]
  rw [z_cp_i hi]
  (try simp only [z_cp_ne (show w2 + 5 ≠ w + 1 by omega), z_cp_ne (show w2 + 5 ≠ w + 2 by omega), z_cp_ne (show w2 + 5 ≠ w + 3 by omega), z_cp_ne (show w2 + 5 ≠ w + 4 by omega), z_cp_ne (show w2 + 5 ≠ w + 5 by omega), z_cp_ne (show w2 + 5 ≠ w + 6 by omega), z_cp_ne (show w2 + 5 ≠ w + 7 by omega)])
theorem pc_cp6 {u : zU} {w w2 : Nat} (L L2 : Nat → Nat) (hd : w2 + 9 ≤ w ∨ w + 9 ≤ w2) {i : Nat} (hi : i < 8) : f_X9_copy w L w2 L2 u (w + 6) i = u (w2 + 6) i := by
  rw [f_X9_copy_e]
  simp only [z_let, z_up_ne (show w + 6 ≠ w by omega), z_cp_ne (show w + 6 ≠ w + 1 by omega), z_cp_ne (show w + 6 ≠ w + 2 by omega), z_cp_ne (show w + 6 ≠ w + 3 by omega), z_cp_ne (show w + 6 ≠ w + 4 by omega), z_cp_ne (show w + 6 ≠ w + 5 by omega), z_cp_ne (show w + 6 ≠ w + 7 by omega)]
  rw [z_cp_i hi]
  (try simp only [z_cp_ne (show w2 + 6 ≠ w + 1 by omega), z_cp_ne (show w2 + 6 ≠ w + 2 by omega), z_cp_ne (show w2 + 6 ≠ w + 3 by omega), z_cp_ne (show w2 + 6 ≠ w + 4 by omega), z_cp_ne (show w2 + 6 ≠ w + 5 by omega), z_cp_ne (show w2 + 6 ≠ w + 6 by omega), z_cp_ne (show w2 + 6 ≠ w + 7 by omega)])
theorem pc_cp7 {u : zU} {w w2 : Nat} (L L2 : Nat → Nat) (hd : w2 + 9 ≤ w ∨ w + 9 ≤ w2) {i : Nat} (hi : i < 4) : f_X9_copy w L w2 L2 u (w + 7) i = u (w2 + 7) i := by
  rw [f_X9_copy_e]
  simp only [z_let, z_up_ne (show w + 7 ≠ w by omega), z_cp_ne (show w + 7 ≠ w + 1 by omega), z_cp_ne (show w + 7 ≠ w + 2 by omega), z_cp_ne (show w + 7 ≠ w + 3 by omega), z_cp_ne (show w + 7 ≠ w + 4 by omega), z_cp_ne (show w + 7 ≠ w + 5 by omega), z_cp_ne (show w + 7 ≠ w + 6 by omega)]
  rw [z_cp_i hi]
  (try simp only [z_cp_ne (show w2 + 7 ≠ w + 1 by omega), z_cp_ne (show w2 + 7 ≠ w + 2 by omega), z_cp_ne (show w2 + 7 ≠ w + 3 by omega), z_cp_ne (show w2 + 7 ≠ w + 4 by omega), z_cp_ne (show w2 + 7 ≠ w + 5 by omega), z_cp_ne (show w2 + 7 ≠ w + 6 by omega), z_cp_ne (show w2 + 7 ≠ w + 7 by omega)])
theorem pc_cp0 {u : zU} {w w2 : Nat} (L L2 : Nat → Nat) (hd : w2 + 9 ≤ w ∨ w + 9 ≤ w2) {i : Nat} (h8 : 8 ≤ i) (h18 : i ≤ 18) : f_X9_copy w L w2 L2 u w i = u w2 i := by
  rw [f_X9_copy_e]
  simp only [z_let, z_up_eq, z_up_ne (show w2 ≠ w by omega), z_cp_ne (show w2 ≠ w + 1 by omega), z_cp_ne (show w2 ≠ w + 2 by omega), z_cp_ne (show w2 ≠ w + 3 by omega), z_cp_ne (show w2 ≠ w + 4 by omega), z_cp_ne (show w2 ≠ w + 5 by omega), z_cp_ne (show w2 ≠ w + 6 by omega), z_cp_ne (show w2 ≠ w + 7 by omega)]
  match i, h8, h18 with
  | 8, _, _ => rfl
  | 9, _, _ => rfl
  | 10, _, _ => rfl
  | 11, _, _ => rfl
  | 12, _, _ => rfl
  | 13, _, _ => rfl
  | 14, _, _ => rfl
  | 15, _, _ => rfl
  | 16, _, _ => rfl
  | 17, _, _ => rfl
  | 18, _, _ => rfl
  | i + 19, _, h => exact absurd h (by omega)
theorem pc_cpo {u : zU} {w w2 r : Nat} (L L2 : Nat → Nat) (hr : ¬ (w ≤ r ∧ r < w + 8)) : f_X9_copy w L w2 L2 u r = u r := by
  rw [f_X9_copy_e]
  simp only [z_let, z_up_ne (show r ≠ w by omega), z_cp_ne (show r ≠ w + 1 by omega), z_cp_ne (show r ≠ w + 2 by omega), z_cp_ne (show r ≠ w + 3 by omega), z_cp_ne (show r ≠ w + 4 by omega), z_cp_ne (show r ≠ w + 5 by omega), z_cp_ne (show r ≠ w + 6 by omega), z_cp_ne (show r ≠ w + 7 by omega)]
theorem pc_copy {u : zU} {w w2 : Nat} {v : Nat → Int32} (L L2 : Nat → Nat) (hd : w2 + 9 ≤ w ∨ w + 9 ≤ w2) (hR : RW u w2 v) : RW (f_X9_copy w L w2 L2 u) w v := by
  intro k o i hk
  have h8 := kap_o hk
  obtain ⟨a, b, c⟩ := kap_i k (kap_lt hk) _ hk
  have hv := hR k o i hk
  rw [← hv]
  dsimp only at h8 a b c
  match o, h8, a, b, c with
  | 0, _, a, _, _ => exact pc_cp0 L L2 hd (a rfl).1 (Nat.le_trans (a rfl).2 (by decide))
  | 1, _, _, b, _ => exact pc_cp1 L L2 hd (b (by decide) (by decide))
  | 2, _, _, b, _ => exact pc_cp2 L L2 hd (b (by decide) (by decide))
  | 3, _, _, b, _ => exact pc_cp3 L L2 hd (b (by decide) (by decide))
  | 4, _, _, b, _ => exact pc_cp4 L L2 hd (b (by decide) (by decide))
  | 5, _, _, b, _ => exact pc_cp5 L L2 hd (b (by decide) (by decide))
  | 6, _, _, b, _ => exact pc_cp6 L L2 hd (b (by decide) (by decide))
  | 7, _, _, _, c => exact pc_cp7 L L2 hd (c rfl)
theorem pj_copy {u : zU} {j j2 : Nat} {v : Nat → Int32} (hd : j2 + 2 ≤ j ∨ j + 2 ≤ j2) (h : JN u j2 v) : JN (f_X2_copy j j2 u) j v ∧ ∀ r, r ≠ j → r ≠ j + 1 → f_X2_copy j j2 u r = u r := by
  obtain ⟨k, nx, a1, a2, a3, a4, a5, a6⟩ := h
  have e : ∀ r, r ≠ j → r ≠ j + 1 → f_X2_copy j j2 u r = u r := fun r h1 h2 => by
    rw [f_X2_copy_e]
    simp only [z_let, z_up_ne h1, z_cp_ne h2]
  refine ⟨⟨k, nx, a1, a2, ?_, ?_, a5, fun ago col b1 b2 => ?_⟩, e⟩
  · rw [f_X2_copy_e]
    simp only [z_let, z_up_eq, z_up_ne (show j2 ≠ j by omega), z_cp_ne (show j2 ≠ j + 1 by omega)]
    exact a3
  · rw [f_X2_copy_e]
    simp only [z_let, z_up_eq, z_up_ne (show j2 ≠ j by omega), z_cp_ne (show j2 ≠ j + 1 by omega)]
    exact a4
  · rw [f_X2_copy_e]
    simp only [z_let, z_up_ne (show j + 1 ≠ j by omega)]
    have : (nx + 59 - ago) % 60 < 60 := Nat.mod_lt _ (by decide)
    rw [z_cp_i (by omega)]
    exact a6 ago col b1 b2
/-! the reference's copies -/
/-- N cells of src behind off in place of dst's -/
def cpy (N off : Nat) (src dst : Nat → Int32) : Nat → Int32 := fun j => if off ≤ j ∧ j < off + N then src (j - off) else dst j
theorem cpy_z (off : Nat) (src dst : Nat → Int32) : ∀ N, zfo (fun k s => upd s (off + k) (src k)) N dst = cpy N off src dst
  | 0 => by funext j; unfold cpy; rw [if_neg (by omega)]; rfl
  | N + 1 => by
    show upd (zfo (fun k s => upd s (off + k) (src k)) N dst) (off + N) (src N) = _
    rw [cpy_z off src dst N]
    funext j
    unfold upd cpy
    by_cases e : j = off + N
    · subst e; rw [if_pos rfl, if_pos (by omega)]; congr 1; omega
    · rw [if_neg e]
      by_cases h : off ≤ j ∧ j < off + N
      · rw [if_pos h, if_pos (by omega)]
      · rw [if_neg h, if_neg (by omega)]
theorem cpy_in {N off : Nat} {src dst : Nat → Int32} {j : Nat} (hj : j < N) : cpy N off src dst (off + j) = src j := by unfold cpy; rw [if_pos (by omega)]; congr 1; omega
theorem cpy_out {N off : Nat} {src dst : Nat → Int32} {j : Nat} (hj : j < off ∨ off + N ≤ j) : cpy N off src dst j = dst j := by unfold cpy; rw [if_neg (by omega)]
theorem cpy_0 {N : Nat} {src dst : Nat → Int32} {j : Nat} (hj : j < N) : cpy N 0 src dst j = src j := by unfold cpy; rw [if_pos (by omega)]; rfl
theorem zst_r {u : zU} {n r : Nat} {f : Nat → Int32} (h : r ≠ n) : zst u n f r = u r := if_neg h
theorem pr_putsAside (u : zU) : f_X11_putsAside u = some (zst u 3 (cpy 305 0 (u 1) (u 3))) := by
  rw [f_X11_putsAside_e, ← cpy_z]
  have h := pu_loop (fun n s x => f_X11_putsAside_2 n x (zst u 3 s)) 305 (fun k s => upd s (0 + k) (u 1 k)) (fun s => some (zst u 3 s)) (s := u 3) (fun n k s hk => ?_) (fun n s => ?_) 5000 (by decide)
  · rw [zst_same] at h; exact h
  · show f_X11_putsAside_2 (n + 1) (nI k) (zst u 3 s) = f_X11_putsAside_2 n (nI (k + 1)) (zst u 3 (upd s (0 + k) (u 1 k)))
    rw [f_X11_putsAside_2_s, if_neg (show ¬ (305 : Int32) ≤ nI k from nI_ge (b := 305) hk (by decide)), if_pos (pu_in (show k < 705 by omega) (by decide)), zl, if_pos (pu_in hk (by decide)), zl, nI_clamp (by omega), zst_r (show 1 ≠ 3 by decide), z_up_st, zst_zst, zst_e, nI_1, Nat.zero_add]
  · show f_X11_putsAside_2 (n + 1) (nI 305) (zst u 3 s) = _
    rw [f_X11_putsAside_2_s, if_pos (show (305 : Int32) ≤ nI 305 by decide)]
theorem pr_comesBack (u : zU) : f_X11_comesBack u = some (zst u 1 (cpy 305 0 (u 3) (u 1))) := by
  rw [f_X11_comesBack_e, ← cpy_z]
  have h := pu_loop (fun n s x => f_X11_comesBack_2 n x (zst u 1 s)) 305 (fun k s => upd s (0 + k) (u 3 k)) (fun s => some (zst u 1 s)) (s := u 1) (fun n k s hk => ?_) (fun n s => ?_) 5000 (by decide)
  · rw [zst_same] at h; exact h
  · show f_X11_comesBack_2 (n + 1) (nI k) (zst u 1 s) = f_X11_comesBack_2 n (nI (k + 1)) (zst u 1 (upd s (0 + k) (u 3 k)))
    rw [f_X11_comesBack_2_s, if_neg (show ¬ (305 : Int32) ≤ nI k from nI_ge (b := 305) hk (by decide)), if_pos (pu_in hk (by decide)), zl, if_pos (pu_in (show k < 705 by omega) (by decide)), zl, nI_clamp (by omega), zst_r (show 3 ≠ 1 by decide), z_up_st, zst_zst, zst_e, nI_1, Nat.zero_add]
  · show f_X11_comesBack_2 (n + 1) (nI 305) (zst u 1 s) = _
    rw [f_X11_comesBack_2_s, if_pos (show (305 : Int32) ≤ nI 305 by decide)]
theorem pr_image7 (u : zU) : f_X11_image_7 5000 0 u = some (z_up (zst u 2 (cpy 705 0 (u 1) (u 2))) 0 3 1) := by
  rw [← cpy_z]
  have h := pu_loop (fun n s x => f_X11_image_7 n x (zst u 2 s)) 705 (fun k s => upd s (0 + k) (u 1 k)) (fun s => some (z_up (zst u 2 s) 0 3 1)) (s := u 2) (fun n k s hk => ?_) (fun n s => ?_) 5000 (by decide)
  · rw [zst_same] at h; exact h
  · show f_X11_image_7 (n + 1) (nI k) (zst u 2 s) = f_X11_image_7 n (nI (k + 1)) (zst u 2 (upd s (0 + k) (u 1 k)))
    rw [f_X11_image_7_s, if_neg (show ¬ (705 : Int32) ≤ nI k from nI_ge (b := 705) hk (by decide)), if_pos (pu_in hk (by decide)), zl, if_pos (pu_in hk (by decide)), zl, nI_clamp (by omega), zst_r (show 1 ≠ 2 by decide), z_up_st, zst_zst, zst_e, nI_1, Nat.zero_add]
  · show f_X11_image_7 (n + 1) (nI 705) (zst u 2 s) = _
    rw [f_X11_image_7_s, if_pos (show (705 : Int32) ≤ nI 705 by decide), zl]
theorem pr_back16 (u : zU) : f_X11_back_16 5000 0 u = some (true, z_up (zst u 1 (cpy 705 0 (u 2) (u 1))) 0 6 0) := by
  rw [← cpy_z]
  have h := pu_loop (fun n s x => f_X11_back_16 n x (zst u 1 s)) 705 (fun k s => upd s (0 + k) (u 2 k)) (fun s => some (true, z_up (zst u 1 s) 0 6 0)) (s := u 1) (fun n k s hk => ?_) (fun n s => ?_) 5000 (by decide)
  · rw [zst_same] at h; exact h
  · show f_X11_back_16 (n + 1) (nI k) (zst u 1 s) = f_X11_back_16 n (nI (k + 1)) (zst u 1 (upd s (0 + k) (u 2 k)))
    rw [f_X11_back_16_s, if_neg (show ¬ (705 : Int32) ≤ nI k from nI_ge (b := 705) hk (by decide)), if_pos (pu_in hk (by decide)), zl, if_pos (pu_in hk (by decide)), zl, nI_clamp (by omega), zst_r (show 2 ≠ 1 by decide), z_up_st, zst_zst, zst_e, nI_1, Nat.zero_add]
  · show f_X11_back_16 (n + 1) (nI 705) (zst u 1 s) = _
    rw [f_X11_back_16_s, if_pos (show (705 : Int32) ≤ nI 705 by decide), zl]
theorem pu_305 {a k : Nat} : (305 : Int32) * nI a + nI k = nI (305 * a + k) := by rw [show (305 : Int32) = nI 305 from rfl, pu_mul, nI_add]
theorem pr_undo26 (u : zU) {a : Nat} (ha : a < 12) (h6 : u 0 6 = nI a) : f_X11_undo_26 5000 0 u = some (true, zst u 1 (cpy 305 0 (slc u a) (u 1))) := by
  rw [← cpy_z]
  have h := pu_loop (fun n s x => f_X11_undo_26 n x (zst u 1 s)) 305 (fun k s => upd s (0 + k) (slc u a k)) (fun s => some (true, zst u 1 s)) (s := u 1) (fun n k s hk => ?_) (fun n s => ?_) 5000 (by decide)
  · rw [zst_same] at h; exact h
  · show f_X11_undo_26 (n + 1) (nI k) (zst u 1 s) = f_X11_undo_26 n (nI (k + 1)) (zst u 1 (upd s (0 + k) (slc u a k)))
    rw [f_X11_undo_26_s, if_neg (show ¬ (305 : Int32) ≤ nI k from nI_ge (b := 305) hk (by decide)), zst_r (show 0 ≠ 1 by decide), h6, pu_305, if_pos (pu_in (by omega) (by decide)), zl, if_pos (pu_in (show k < 705 by omega) (by decide)), zl, nI_clamp (by omega), nI_clamp (by omega), zst_r (show 4 ≠ 1 by decide), z_up_st, zst_zst, zst_e, nI_1, Nat.zero_add]
    rfl
  · show f_X11_undo_26 (n + 1) (nI 305) (zst u 1 s) = _
    rw [f_X11_undo_26_s, if_pos (show (305 : Int32) ≤ nI 305 by decide)]
theorem pr_rem52 (u : zU) {a : Nat} (ha : a < 12) (h6 : u 0 6 = nI a) : f_X11_remembers_52 5000 0 u = some (z_up (zst u 4 (cpy 305 (305 * a) (u 1) (u 4))) 0 6 (nI (a + 1))) := by
  rw [← cpy_z]
  have h := pu_loop (fun n s x => f_X11_remembers_52 n x (zst u 4 s)) 305 (fun k s => upd s (305 * a + k) (u 1 k)) (fun s => some (z_up (zst u 4 s) 0 6 (nI (a + 1)))) (s := u 4) (fun n k s hk => ?_) (fun n s => ?_) 5000 (by decide)
  · rw [zst_same] at h; exact h
  · show f_X11_remembers_52 (n + 1) (nI k) (zst u 4 s) = f_X11_remembers_52 n (nI (k + 1)) (zst u 4 (upd s (305 * a + k) (u 1 k)))
    rw [f_X11_remembers_52_s, if_neg (show ¬ (305 : Int32) ≤ nI k from nI_ge (b := 305) hk (by decide)), if_pos (pu_in (show k < 705 by omega) (by decide)), zl, zst_r (show 0 ≠ 4 by decide), h6, pu_305, if_pos (pu_in (by omega) (by decide)), zl, nI_clamp (by omega), nI_clamp (by omega), zst_r (show 1 ≠ 4 by decide), z_up_st, zst_zst, zst_e, nI_1]
  · show f_X11_remembers_52 (n + 1) (nI 305) (zst u 4 s) = _
    rw [f_X11_remembers_52_s, if_pos (show (305 : Int32) ≤ nI 305 by decide), zl, zst_r (show 0 ≠ 4 by decide), h6, nI_1]
/-- the row of acts moved up by one -/
def shN (N : Nat) (d : Nat → Int32) : Nat → Int32 := fun j => if j < N then d (j + 305) else d j
theorem shN_z (d : Nat → Int32) : ∀ N, zfo (fun k s => upd s k (s (k + 305))) N d = shN N d
  | 0 => by funext j; unfold shN; rw [if_neg (by omega)]; rfl
  | N + 1 => by
    show upd (zfo (fun k s => upd s k (s (k + 305))) N d) N (zfo (fun k s => upd s k (s (k + 305))) N d (N + 305)) = _
    rw [shN_z d N]
    funext j
    by_cases e : j = N
    · subst e; rw [upd_eq]; unfold shN; rw [if_neg (by omega), if_pos (by omega)]
    · rw [upd_ne e]
      unfold shN
      by_cases h : j < N
      · rw [if_pos h, if_pos (by omega)]
      · rw [if_neg h, if_neg (by omega)]
theorem pr_rem11 (u : zU) (h6 : u 0 6 = nI 12) : f_X11_remembers_11 5000 0 u = some (z_up (zst u 4 (cpy 305 (305 * 11) (u 1) (shN 3355 (u 4)))) 0 6 (nI 12)) := by
  have h := pu_loop (fun n s x => f_X11_remembers_11 n x (zst u 4 s)) 3355 (fun k s => upd s k (s (k + 305))) (fun s => f_X11_remembers_52 5000 0 (z_up (zst u 4 s) 0 6 (nI 11))) (s := u 4) (fun n k s hk => ?_) (fun n s => ?_) 5000 (by decide)
  · rw [zst_same, shN_z, pr_rem52 (z_up (zst u 4 (shN 3355 (u 4))) 0 6 (nI 11)) (a := 11) (by decide) rfl] at h
    refine Eq.trans h (congrArg some ?_)
    funext r
    by_cases e : r = 4
    · subst e; rfl
    · by_cases e0 : r = 0
      · subst e0
        funext j
        show upd (upd (u 0) 6 (nI 11)) 6 (nI 12) j = upd (u 0) 6 (nI 12) j
        unfold upd
        split <;> rfl
      · rw [z_up_ne e0, zst_r e, z_up_ne e0, zst_r e, z_up_ne e0, zst_r e]
  · show f_X11_remembers_11 (n + 1) (nI k) (zst u 4 s) = f_X11_remembers_11 n (nI (k + 1)) (zst u 4 (upd s k (s (k + 305))))
    rw [f_X11_remembers_11_s, if_neg (show ¬ (3355 : Int32) ≤ nI k from nI_ge (b := 3355) hk (by decide)), show nI k + (305 : Int32) = nI (k + 305) from nI_add k 305, if_pos (pu_in (by omega) (by decide)), zl, if_pos (pu_in (show k < 3660 by omega) (by decide)), zl, nI_clamp (by omega), nI_clamp (by omega), z_up_st, zst_zst, zst_e, nI_1]
  · show f_X11_remembers_11 (n + 1) (nI 3355) (zst u 4 s) = _
    rw [f_X11_remembers_11_s, if_pos (show (3355 : Int32) ≤ nI 3355 by decide), zl, zst_r (show 0 ≠ 4 by decide), h6, show nI 12 - (1 : Int32) = nI 11 from by decide]
