/-! PURE, 53: numbers in step -/
theorem run_min (P : Int32 → Bool) (t : Nat → Int32) : ∀ a d p, run P t (min a d) p = min (p + a) (run P t d p)
  | 0, d, p => by
    have := run_le P t d p
    rw [Nat.zero_min]
    show p = _
    omega
  | a + 1, 0, p => by
    rw [Nat.min_zero]
    show p = min (p + (a + 1)) p
    omega
  | a + 1, d + 1, p => by
    rw [show min (a + 1) (d + 1) = min a d + 1 by omega]
    show (if P (t p) = true then run P t (min a d) (p + 1) else p) = min (p + (a + 1)) (if P (t p) = true then run P t d (p + 1) else p)
    have := run_min P t a d (p + 1)
    split
    · rw [this]; omega
    · omega
theorem ald_run (t : Nat → Int32) : ∀ d p, ald t (run isDi t d p - p) p = true
  | 0, p => by show ald t (p - p) p = true; rw [Nat.sub_self]; rfl
  | d + 1, p => by
    have h1 := ald_run t d (p + 1)
    have h2 := run_le isDi t d (p + 1)
    show ald t ((if isDi (t p) = true then run isDi t d (p + 1) else p) - p) p = true
    by_cases h : isDi (t p) = true
    · rw [if_pos h, show run isDi t d (p + 1) - p = (run isDi t d (p + 1) - (p + 1)) + 1 by omega]
      show (isDi (t p) && ald t (run isDi t d (p + 1) - (p + 1)) (p + 1)) = true
      rw [h, h1]; rfl
    · rw [if_neg h, Nat.sub_self]; rfl
theorem isDi_nle {c : Int32} (h : isDi c = true) : isLe c = false := by
  unfold isDi at h
  unfold isLe
  rw [Bool.and_eq_true, decide_eq_true_eq, decide_eq_true_eq] at h
  rw [decide_eq_false (by lia), Bool.false_and]
theorem kd_1 (c : Int32) : kd c = 1 ↔ isDi c = true := by
  unfold kd
  cases hd : isDi c with
  | true => rw [isDi_nle hd, if_neg Bool.false_ne_true, if_pos rfl]; exact ⟨fun _ => rfl, fun _ => rfl⟩
  | false =>
    rw [if_neg Bool.false_ne_true]
    constructor
    · intro e
      split at e
      · exact absurd e (by decide)
      · exact absurd e (by decide)
    · intro e; cases e
theorem rke_di (t : Nat → Int32) : ∀ d p, rke t 1 d p = run isDi t d p
  | 0, p => rfl
  | d + 1, p => by
    show (if (1 : Int32) < 0 then p else if kd (t p) = 1 then rke t 1 d (p + 1) else p) = if isDi (t p) = true then run isDi t d (p + 1) else p
    rw [if_neg (by decide), rke_di t d (p + 1)]
    by_cases h : isDi (t p) = true
    · rw [if_pos h, if_pos ((kd_1 _).mpr h)]
    · rw [if_neg h, if_neg (fun e => h ((kd_1 _).mp e))]
theorem ren_di {t : Nat → Int32} {n b : Nat} (hb : b < n) (h : isDi (t b) = true) : ren t n b = run isDi t (n - b) b := by
  unfold ren
  rw [(kd_1 _).mpr h, rke_di, show n - b = (n - (b + 1)) + 1 by omega]
  exact (if_pos h).symm
theorem pc_pass {t : Nat → Int32} {n i : Nat} {u : zU} (hJ : JC t n u) (hi : u 3 4 = nI i) (h : i < NTh t n) : f_X8_pass u = z_up u 3 4 (nI (i + 1)) := by
  have := hJ.1
  rw [f_X8_pass_e, hJ.2.2.1, hi, if_neg (nI_ge h (by omega)), zl, nI_1]
theorem j_val {t : Nat → Int32} {n i p : Nat} {u v : zU} (h : OKs t n i p u v) :
    (∃ m v' p', m ≤ 999 ∧ f_X8_value u = some (nI m) ∧ f_X8_pass u = z_up u 3 4 (nI (i + 1)) ∧ KR v v' ∧ OKs t n (i + 1) p' (z_up u 3 4 (nI (i + 1))) v' ∧ (skp t (n - p) p < n ∧ isDi (t (skp t (n - p) p)) = true) ∧ ∀ lo hi, f_X11_figures lo hi v = if nI m < lo ∨ ¬ nI m ≤ hi then some (nI m, f_X11_wrong (nI (skp t (n - p) p)) v') else some (nI m, v'))
    ∨ (f_X8_value u = some (-1) ∧ ∃ u', f_X8_refuse u = some u' ∧ KC u u' ∧ ∀ lo hi, ∃ y v', f_X11_figures lo hi v = some (y, v') ∧ KR v v' ∧ FAs t n 0 u' v') := by
  have hn := h.nx
  have hp := h.2.2.2.2.2.1
  have hl := h.2.2.1.2.2
  have hi4 := h.1.1
  have hs := skp_le t (n - p) p
  obtain ⟨ur, er, kr, fr⟩ := j_ref h
  have hF := pr_figures h.2.1.r hp h.2.2.2.2.1 h.2.2.2.1
  have hgo : ∀ {q}, i < NTh t n → q ≤ n → Th t n q = (Th t n 0).drop (i + 1) → OKs t n (i + 1) q (z_up u 3 4 (nI (i + 1))) (z_up v 0 11 (nI q)) := fun a b c => h.go a b c
  generalize skp t (n - p) p = b at hn hs fr hF ⊢
  rw [run_min] at hF
  have hrl := run_le isDi t (n - b) b
  have hbad : ∀ k, k = 0 ∨ 3 < k → min (b + 4) (run isDi t (n - b) b) - b = k → ∀ lo hi, ∃ y v', f_X11_figures lo hi v = some (y, v') ∧ KR v v' ∧ FAs t n 0 ur v' := by
    intro k hk ek lo hi
    refine ⟨nI (nv t (min (b + 4) (run isDi t (n - b) b) - b) 0 b), _, ?_, (KR.rf.up (j := 11) (Or.inl rfl) _).wr _, fr (z_up v 0 11 (nI (min (b + 4) (run isDi t (n - b) b)))) (min (b + 4) (run isDi t (n - b) b)) 0 (h.2.1.kr (KR.rf.up (Or.inl rfl) _)) h.2.2.2.1 zupe (by omega)⟩
    rw [hF lo hi]
    unfold figR
    rw [if_pos (by omega)]
  rcases hn with ⟨b1, b2, b3, b4, b5, b6, b7⟩ | ⟨b1, b2, b3, b4⟩
  · have hv := pc_value h.1.2.1 h.2.2.1.2.1 (by omega) b3 b4 (by omega) (by omega)
    cases hd : isDi (t b) with
    | true =>
      have er2 := ren_di b1 hd
      by_cases h3 : ren t n b - b ≤ 3
      · refine Or.inl ⟨nv t (ren t n b - b) 0 b, z_up v 0 11 (nI (ren t n b)), ren t n b, ?_, ?_, pc_pass h.1 h.2.2.1.2.1 b2, KR.rf.up (Or.inl rfl) _, hgo b2 b6 b7, ⟨b1, rfl⟩, fun lo hi => ?_⟩
        · have ha := ald_run t (n - b) b
          rw [← er2] at ha
          have hb := nv_b t (ren t n b - b) 0 b ha
          have : 10 ^ (ren t n b - b) ≤ 10 ^ 3 := Nat.pow_le_pow_right (by decide) h3
          omega
        · have ha := ald_run t (n - b) b
          rw [← er2] at ha
          rw [hv]
          unfold vlu
          rw [if_neg (by omega), if_pos ha]
        · rw [hF lo hi, ← er2, show min (b + 4) (ren t n b) = ren t n b by omega]
          unfold figR
          by_cases hc : nI (nv t (ren t n b - b) 0 b) < lo ∨ ¬ nI (nv t (ren t n b - b) 0 b) ≤ hi
          · rw [if_pos (Or.inr (Or.inr hc)), if_pos hc]
          · rw [if_neg (by rintro (a | a | a) <;> first | omega | exact hc a), if_neg hc]
      · refine Or.inr ⟨?_, ur, er, kr, hbad 4 (Or.inr (by decide)) (by rw [← er2]; omega)⟩
        rw [hv]
        unfold vlu
        rw [if_pos (by omega)]
    | false =>
      have e0 : run isDi t (n - b) b = b := by
        rw [show n - b = (n - b - 1) + 1 by omega]
        exact if_neg (by rw [hd]; exact Bool.false_ne_true)
      refine Or.inr ⟨?_, ur, er, kr, hbad 0 (Or.inl rfl) (by omega)⟩
      rw [hv]
      unfold vlu
      by_cases hq : ren t n b - b < 1 ∨ 3 < ren t n b - b
      · rw [if_pos hq]
      · rw [if_neg hq, show ren t n b - b = (ren t n b - b - 1) + 1 by omega]
        have ea : ald t (ren t n b - b - 1 + 1) b = false := by
          show (isDi (t b) && _) = false
          rw [hd, Bool.false_and]
        rw [ea, if_neg Bool.false_ne_true]
  · have hv := pc_value h.1.2.1 h.2.2.1.2.1 (by omega) b3 b4 (Nat.le_refl _) (by omega)
    refine Or.inr ⟨?_, ur, er, kr, hbad 0 (Or.inl rfl) (by omega)⟩
    rw [hv]
    unfold vlu
    rw [if_pos (by omega)]
theorem j_num {t : Nat → Int32} {n i p : Nat} {u v : zU} (h : OKs t n i p u v) {lo hi : Int32} (hlo : (-1 : Int32) < lo) (hlh : lo ≤ hi) : ∃ x u' y v', f_X8_number lo hi u = some (x, u') ∧ f_X11_figures lo hi v = some (y, v') ∧ KC u u' ∧ KR v v' ∧ (lo ≤ x ∧ x ≤ hi) ∧ ((∃ p', OKs t n (i + 1) p' u' v' ∧ x = y) ∨ FAs t n 0 u' v') := by
  have h12 := h.2.2.2.1
  rcases j_val h with ⟨m, v', p', hm, e1, e2, k1, k2, k3, e3⟩ | ⟨e1, u', e2, k1, e3⟩
  · by_cases hc : nI m < lo ∨ ¬ nI m ≤ hi
    · obtain ⟨ur, er, kr, fr⟩ := j_ref h
      refine ⟨lo, ur, _, _, ?_, (e3 lo hi).trans (if_pos hc), kr, k1.wr _, ⟨Int32.le_refl lo, hlh⟩, Or.inr (fr v' p' 0 k2.2.1 k2.2.2.2.1 k2.2.2.2.2.1 (by have := k2.2.2.2.2.2.1; omega))⟩
      rw [f_X8_number_e, e1, Option.bind_some]
      by_cases h1 : nI m < lo
      · rw [if_pos h1, er, Option.bind_some]
      · rw [if_neg h1, if_neg (fun e => hc.elim h1 (fun q => q e)), er, Option.bind_some]
    · have h1 : ¬ nI m < lo := fun e => hc (Or.inl e)
      have h2 : nI m ≤ hi := Int32.not_lt.mp (fun e => hc (Or.inr (Int32.not_le.mpr e)))
      refine ⟨nI m, _, nI m, v', ?_, (e3 lo hi).trans (if_neg hc), KC.rf.up (Or.inl rfl) _, k1, ⟨Int32.not_lt.mp h1, h2⟩, Or.inl ⟨p', k2, rfl⟩⟩
      rw [f_X8_number_e, e1, Option.bind_some, if_neg h1, if_pos h2, e2, zl]
  · obtain ⟨y, v', e4, k2, k3⟩ := e3 lo hi
    refine ⟨lo, u', y, v', ?_, e4, k1, k2, ⟨Int32.le_refl lo, hlh⟩, Or.inr k3⟩
    rw [f_X8_number_e, e1, Option.bind_some, if_pos hlo, e2, Option.bind_some]
/-- the word that must stand there, and the number behind it -/
theorem FAs.fg {t : Nat → Int32} {n e : Nat} {u v : zU} (f : FAs t n e u v) (lo hi : Int32) : f_X11_figures lo hi v = some (0, v) := by rw [f_X11_figures_e, if_neg f.r]
theorem FAs.af {t : Nat → Int32} {n e a : Nat} {u v : zU} (f : FAs t n e u v) (ha : wok a) {lo hi : Int32} (hlo : (-1 : Int32) < lo) : f_X8_must a u = some u ∧ f_X8_number lo hi u = some (lo, u) ∧ f_X11_after a lo hi v = some (0, v) :=
  ⟨f.c.mu ha.2.1 ha.1, f.c.nu hlo, by rw [f_X11_after_e, if_neg f.r, f.fg, z_b2s]⟩
theorem j_after {t : Nat → Int32} {n i p a : Nat} {u v : zU} (ha : wok a) {lo hi : Int32} (hlo : (-1 : Int32) < lo) (hlh : lo ≤ hi) (h : OKs t n i p u v) : ∃ u1 x u' y v', f_X8_must a u = some u1 ∧ f_X8_number lo hi u1 = some (x, u') ∧ f_X11_after a lo hi v = some (y, v') ∧ KC u u' ∧ KR v v' ∧ (lo ≤ x ∧ x ≤ hi) ∧ ((∃ p', OKs t n (i + 2) p' u' v' ∧ x = y) ∨ FAs t n 0 u' v') := by
  obtain ⟨x, u1, v1, e1, e2, k1, k2, ht, hf⟩ := j_word ha h
  have h12 := h.2.2.2.1
  cases x with
  | true =>
    obtain ⟨p', h1⟩ := ht rfl
    obtain ⟨x, u', y, v', e3, e4, k3, k4, hx, ho⟩ := j_num h1 hlo hlh
    refine ⟨u1, x, u', y, v', ?_, e3, ?_, k1.tr k3, k2.tr k4, hx, ho⟩
    · rw [f_X8_must_e, e1, z_b2s, if_pos rfl]
    · rw [f_X11_after_e, if_pos h12, e2, z_b2s, if_pos rfl, e4, z_b2s]
  | false =>
    obtain ⟨h1, rfl, -⟩ := hf rfl
    obtain ⟨u2, e3, k3, f, k4⟩ := j_refuse h1 (skp_id h.2.2.2.2.2.1)
    refine ⟨u2, lo, u2, 0, _, ?_, f.c.nu hlo, ?_, k1.tr k3, k2.tr k4, ⟨Int32.le_refl lo, hlh⟩, Or.inr f⟩
    · rw [f_X8_must_e, e1, z_b2s, if_neg Bool.false_ne_true, e3, Option.bind_some]
    · rw [f_X11_after_e, if_pos h12, e2, z_b2s, if_neg Bool.false_ne_true, zl, f.fg, z_b2s]
