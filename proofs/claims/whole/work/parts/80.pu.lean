/-! PURE, 31: shifts -/
def sbc (m : Nat) : Nat := bcnt (fun r => m.testBit r) 8
def sSub (S s : Nat) : Bool := decide ((nI s &&& (nI S ^^^ (-1 : Int32))) = 0)
theorem sSub1 : ∀ S, S < 256 → sSub S S = true := by decide +kernel
theorem nI_not : ∀ s, s < 256 → nI s ^^^ (-1 : Int32) = nI (2 ^ 32 - (s + 1)) := by decide +kernel
theorem bcnt_sm {P P' : Nat → Bool} {x : Nat} : ∀ N, (∀ k, k < N → P k = true → P' k = true) → x < N → P x = false → P' x = true → bcnt P N < bcnt P' N
  | 0, _, hx, _, _ => absurd hx (by omega)
  | N + 1, h, hx, h1, h2 => by
    rw [bcnt_s, bcnt_s]
    by_cases e : x = N
    · subst e
      rw [h1, h2, if_neg Bool.false_ne_true, if_pos rfl]
      have := bcnt_mono (P := P) (P' := P') x (fun k hk => h k (by omega))
      omega
    · have ih := bcnt_sm (P := P) (P' := P') (x := x) N (fun k hk => h k (by omega)) (by omega) h1 h2
      by_cases hp : P N = true
      · rw [if_pos hp, if_pos (h N (by omega) hp)]; omega
      · rw [if_neg hp]; split <;> omega
theorem sSub3 {S s : Nat} (hS : S < 256) (hs : s < 256) (h : sSub S s = true) (k : Nat) (hk : s.testBit k = true) : S.testBit k = true := by
  have h1 : (nI s &&& (nI S ^^^ (-1 : Int32))) = 0 := of_decide_eq_true h
  rw [nI_not S hS, nz_and] at h1
  have h2 : s &&& (2 ^ 32 - (S + 1)) ≤ s := Nat.and_le_left
  have h3 : s &&& (2 ^ 32 - (S + 1)) = 0 := (nI_eq (b := 0) (by omega) (by decide)).mp h1
  have h4 : (s &&& (2 ^ 32 - (S + 1))).testBit k = false := by rw [h3]; exact Nat.zero_testBit k
  have hk8 : k < 8 := by
    refine Classical.byContradiction (fun hc => ?_)
    have : s < 2 ^ k := Nat.lt_of_lt_of_le hs (Nat.pow_le_pow_right (n := 2) (by decide) (show 8 ≤ k by omega))
    rw [Nat.testBit_lt_two_pow this] at hk
    cases hk
  rw [Nat.testBit_and, Nat.testBit_two_pow_sub_succ (by omega), decide_eq_true (show k < 32 by omega), hk] at h4
  simpa using h4
theorem sSub2 {S s : Nat} (hS : S < 256) (hs : s < 256) (h : sSub S s = true) : s = S ∨ (s < S ∧ sbc s < sbc S) := by
  have h1 := sSub3 hS hs h
  by_cases e : s = S
  · exact Or.inl e
  · right
    have hle : s ≤ S := by
      have : s &&& S = s := by
        apply Nat.eq_of_testBit_eq
        intro k
        rw [Nat.testBit_and]
        cases hb : s.testBit k with
        | false => rfl
        | true => rw [h1 k hb]; rfl
      rw [← this]; exact Nat.and_le_right
    refine ⟨by omega, ?_⟩
    have hx : ∃ x, x < 8 ∧ s.testBit x = false ∧ S.testBit x = true := by
      refine Classical.byContradiction (fun hc => e ?_)
      apply Nat.eq_of_testBit_eq
      intro k
      cases hb : s.testBit k with
      | true => rw [h1 k hb]
      | false =>
        cases hB : S.testBit k with
        | false => rfl
        | true =>
          refine absurd ⟨k, ?_, hb, hB⟩ hc
          refine Classical.byContradiction (fun hk => ?_)
          have : S < 2 ^ k := Nat.lt_of_lt_of_le hS (Nat.pow_le_pow_right (n := 2) (by decide) (show 8 ≤ k by omega))
          rw [Nat.testBit_lt_two_pow this] at hB
          cases hB
    obtain ⟨x, hx8, x1, x2⟩ := hx
    exact bcnt_sm 8 (fun k _ => h1 k) hx8 x1 x2
theorem sLe_ex2 {v : Nat → Int32} {P P' : Nat → Bool} {n : Nat} (h : ∀ k, k < n → P k = P' k ∨ v (25 + 4 * k) = -1) : sLe v P n = sLe v P' n := zfo_ext n (fun k hk => by
  rcases h k hk with e | e
  · rw [e]
  · rw [e, if_pos rfl]
    split <;> split <;> rfl)
theorem sLe_0 {v : Nat → Int32} {P : Nat → Bool} : ∀ n, (∀ k, k < n → P k = false) → sLe v P n = 0
  | 0, _ => rfl
  | n + 1, h => by
    have := sLe_0 (v := v) (P := P) n (fun k hk => h k (by omega))
    show (if P n = true then _ else sLe v P n) = 0
    rw [h n (by omega), if_neg Bool.false_ne_true, this]
theorem sh_lean {v : Nat → Int32} {s : Nat} (hs : s < 256) (h8 : rN v ≤ 8) : sLe v (fun k => (bset (Pse v) (rN v) &&& (2 ^ 32 - (s + 1))).testBit k) (rN v) = sLe v (fun k => !s.testBit k) (rN v) := by
  refine sLe_ex2 (fun k hk => ?_)
  by_cases hw : v (25 + 4 * k) = -1
  · exact Or.inr hw
  · left
    show (bset (Pse v) (rN v) &&& (2 ^ 32 - (s + 1))).testBit k = !s.testBit k
    rw [Nat.testBit_and, bset_bit, Nat.testBit_two_pow_sub_succ (by omega), decide_eq_true hk, decide_eq_true (show k < 32 by omega)]
    unfold Pse
    rw [decide_eq_false hw]
    simp
/-- what is found before s: none, or one of the candidates -/
def shI (v : Nat → Int32) (S s : Nat) (c : Nat) (r : Int32) : Prop := (r = -1 ∧ c = S) ∨ (r = nI c ∧ c < 256 ∧ sSub S c = true)
theorem p_shifts {q : zq} {u r : zU} (hR : RW u 6 (r 1)) (hV : IV (r 1)) : ∀ d s f1 f2 c x, s + d = 256 → d < f1 → d < f2 → shI (r 1) (bset (Pse (r 1)) (rN (r 1))) s c x → (s ≤ bset (Pse (r 1)) (rN (r 1)) ∨ x ≠ -1) → ∃ y, (s ≤ bset (Pse (r 1)) (rN (r 1)) → f_X10_shifts_9 q f1 (nI (bset (Pse (r 1)) (rN (r 1)))) (nI c) (nI s) u = some y) ∧ (bset (Pse (r 1)) (rN (r 1)) < s → y = x) ∧ f_X11_shifts_14 f2 (nI (bset (Pse (r 1)) (rN (r 1)))) x (nI s) r = some (y, r) := by
  have h8 := hV.n8
  have hS : bset (Pse (r 1)) (rN (r 1)) < 256 := bset256 h8
  have hlean : ∀ s, s < 256 → sLe (r 1) (fun k => (bset (Pse (r 1)) (rN (r 1)) &&& (2 ^ 32 - (s + 1))).testBit k) (rN (r 1)) = sLe (r 1) (fun k => !s.testBit k) (rN (r 1)) := fun s hs => sh_lean hs h8
  have hself : sLe (r 1) (fun k => !(bset (Pse (r 1)) (rN (r 1))).testBit k) (rN (r 1)) = 0 := by
    rw [sLe_ex2 (P' := fun _ => false) (fun k hk => ?_)]
    · exact sLe_0 _ (fun _ _ => rfl)
    · by_cases hw : r 1 (25 + 4 * k) = -1
      · exact Or.inr hw
      · left
        show (!(bset (Pse (r 1)) (rN (r 1))).testBit k) = false
        rw [bset_bit, decide_eq_true hk]
        unfold Pse
        rw [decide_eq_false hw]
        rfl
  generalize bset (Pse (r 1)) (rN (r 1)) = S at hS hlean hself ⊢
  intro d
  induction d with
  | zero =>
    intro s f1 f2 c x hs hf1 hf2 hI hx
    obtain ⟨m, rfl⟩ : ∃ m, f2 = m + 1 := ⟨f2 - 1, by omega⟩
    obtain rfl : s = 256 := by omega
    refine ⟨x, fun e => absurd e (by omega), fun _ => rfl, ?_⟩
    rw [f_X11_shifts_14_s, if_pos (show (256 : Int32) ≤ nI 256 by decide)]
  | succ d ih =>
    intro s f1 f2 c x hs hf1 hf2 hI hx
    obtain ⟨m, rfl⟩ : ∃ m, f2 = m + 1 := ⟨f2 - 1, by omega⟩
    obtain ⟨k, rfl⟩ : ∃ k, f1 = k + 1 := ⟨f1 - 1, by omega⟩
    have hs256 : s < 256 := by omega
    have hle : (nI S &&& (nI s ^^^ (-1 : Int32))) = nI (S &&& (2 ^ 32 - (s + 1))) := by rw [nI_not s hs256, nz_and]
    have hL := pr_leanBy hV (m := S &&& (2 ^ 32 - (s + 1))) (Nat.lt_of_le_of_lt Nat.and_le_left hS)
    rw [hlean s hs256] at hL
    have hW := pc_leanW (q := q) hR hV hs256
    have hbs := pu_bits0 hs256 r
    have hbc := pu_bitC hs256 u
    have hcs : c < 256 := by rcases hI with ⟨-, e⟩ | ⟨-, e, -⟩ <;> omega
    have hbs2 := pu_bits0 hcs r
    have hbc2 := pu_bitC hcs u
    have hcb := bcnt_le (fun r => c.testBit r) 8
    have hsb := bcnt_le (fun r => s.testBit r) 8
    have hsucc : (s + 1) + d = 256 := by omega
    have hm1 : ∀ a, a < 256 → nI a ≠ -1 := fun a ha => pu_m1 (by omega)
    have hcle : sSub S c = true → sbc c ≤ sbc S := fun e => by
      rcases sSub2 hS hcs e with h | ⟨-, h⟩
      · rw [h]; exact Nat.le_refl _
      · omega
    rw [f_X11_shifts_14_s, if_neg (show ¬ (256 : Int32) ≤ nI s from nI_ge (b := 256) hs256 (by decide)), hle, hL, nI_1]
    by_cases hsub : sSub S s = true
    · have hsub' : (nI s &&& (nI S ^^^ (-1 : Int32))) = 0 := of_decide_eq_true hsub
      rw [if_pos hsub', Option.bind_some]
      rcases sSub2 hS hs256 hsub with heq | ⟨hlt, hcl⟩
      · subst heq
        rw [hself, if_pos rfl]
        rcases hI with ⟨rfl, ec⟩ | ⟨rfl, hc, hcS⟩
        · rw [if_pos rfl]
          obtain ⟨y, -, y2, y3⟩ := ih (s + 1) (d + 1) m s (nI s) hsucc (by omega) (by omega) (Or.inr ⟨rfl, hs256, hsub⟩) (Or.inr (hm1 s hs256))
          refine ⟨y, fun _ => ?_, fun e => absurd e (by omega), y3⟩
          rw [f_X10_shifts_9_s, if_pos (nI_le (Nat.le_refl _) (by omega)), y2 (by omega), ec]
        · have hc2 := hcle hcS
          rw [if_neg (hm1 c hc), hbs, Option.bind_some, hbs2, Option.bind_some, if_pos (show nI (bcnt (fun r => c.testBit r) 8) ≤ nI (bcnt (fun r => s.testBit r) 8) from nI_le hc2 (by omega))]
          obtain ⟨y, -, y2, y3⟩ := ih (s + 1) (d + 1) m c (nI c) hsucc (by omega) (by omega) (Or.inr ⟨rfl, hc, hcS⟩) (Or.inr (hm1 c hc))
          refine ⟨y, fun _ => ?_, fun e => absurd e (by omega), y3⟩
          rw [f_X10_shifts_9_s, if_pos (nI_le (Nat.le_refl _) (by omega)), y2 (by omega)]
      · have hnle : ¬ nI S ≤ nI s := nI_ge hlt (by omega)
        by_cases hz : sLe (r 1) (fun k => !s.testBit k) (rN (r 1)) = 0
        · rw [if_pos hz]
          rcases hI with ⟨rfl, rfl⟩ | ⟨rfl, hc, hcS⟩
          · rw [if_pos rfl]
            obtain ⟨y, y1, y2, y3⟩ := ih (s + 1) k m s (nI s) hsucc (by omega) (by omega) (Or.inr ⟨rfl, hs256, hsub⟩) (Or.inr (hm1 s hs256))
            refine ⟨y, fun _ => ?_, fun e => absurd e (by omega), y3⟩
            rw [f_X10_shifts_9_s, if_neg hnle, hbc, hbc2, zl, zl, if_neg (show ¬ nI (bcnt (fun r => c.testBit r) 8) ≤ nI (bcnt (fun r => s.testBit r) 8) from nI_ge hcl (by omega)), if_pos hsub', hW, Option.bind_some, if_pos hz, nI_1]
            exact y1 (by omega)
          · rw [if_neg (hm1 c hc), hbs, Option.bind_some, hbs2, Option.bind_some]
            by_cases hb : sbc c ≤ sbc s
            · have hb2 : nI (bcnt (fun r => c.testBit r) 8) ≤ nI (bcnt (fun r => s.testBit r) 8) := nI_le hb (by omega)
              rw [if_pos hb2]
              obtain ⟨y, y1, y2, y3⟩ := ih (s + 1) k m c (nI c) hsucc (by omega) (by omega) (Or.inr ⟨rfl, hc, hcS⟩) (Or.inr (hm1 c hc))
              refine ⟨y, fun _ => ?_, fun e => absurd e (by omega), y3⟩
              rw [f_X10_shifts_9_s, if_neg hnle, hbc, hbc2, zl, zl, if_pos hb2, if_pos hsub', nI_1]
              exact y1 (by omega)
            · have hb2 : ¬ nI (bcnt (fun r => c.testBit r) 8) ≤ nI (bcnt (fun r => s.testBit r) 8) := nI_ge (show sbc s < sbc c by omega) (show sbc c < 2 ^ 31 by unfold sbc; omega)
              rw [if_neg hb2]
              obtain ⟨y, y1, y2, y3⟩ := ih (s + 1) k m s (nI s) hsucc (by omega) (by omega) (Or.inr ⟨rfl, hs256, hsub⟩) (Or.inr (hm1 s hs256))
              refine ⟨y, fun _ => ?_, fun e => absurd e (by omega), y3⟩
              rw [f_X10_shifts_9_s, if_neg hnle, hbc, hbc2, zl, zl, if_neg hb2, if_pos hsub', hW, Option.bind_some, if_pos hz, nI_1]
              exact y1 (by omega)
        · rw [if_neg hz]
          obtain ⟨y, y1, y2, y3⟩ := ih (s + 1) k m c x hsucc (by omega) (by omega) hI (Or.inl (by omega))
          refine ⟨y, fun _ => ?_, fun e => absurd e (by omega), y3⟩
          rw [f_X10_shifts_9_s, if_neg hnle, hbc, hbc2, zl, zl, if_pos hsub', if_pos hsub', hW, Option.bind_some, if_neg hz, nI_1]
          rw [y1 (by omega)]
          split <;> rfl
    · have hsub' : ¬ (nI s &&& (nI S ^^^ (-1 : Int32))) = 0 := fun e => hsub (decide_eq_true e)
      have hne : s ≠ S := fun e => hsub (by rw [e]; exact sSub1 S hS)
      rw [if_neg hsub']
      by_cases hlt : s < S
      · have hnle : ¬ nI S ≤ nI s := nI_ge hlt (by omega)
        obtain ⟨y, y1, y2, y3⟩ := ih (s + 1) k m c x hsucc (by omega) (by omega) hI (Or.inl (by omega))
        refine ⟨y, fun _ => ?_, fun e => absurd e (by omega), y3⟩
        rw [f_X10_shifts_9_s, if_neg hnle, hbc, hbc2, zl, zl, if_neg hsub', if_neg hsub', nI_1]
        rw [y1 (by omega)]
        split <;> rfl
      · obtain ⟨y, -, y2, y3⟩ := ih (s + 1) (d + 1) m c x hsucc (by omega) (by omega) hI (Or.inr (by rcases hx with e | e; exact absurd e (by omega); exact e))
        exact ⟨y, fun e => absurd e (by omega), fun _ => y2 (by omega), y3⟩
theorem s_shifts {q : zq} {u r : zU} (h : RR q u r) : ∃ x, f_X10_shifts q u = some x ∧ f_X11_shifts r = some (x, z_up r 0 0 0) ∧ RR q u (z_up r 0 0 0) := by
  obtain ⟨y, y1, -, y3⟩ := p_shifts (q := q) (u := u) (r := z_up r 0 0 0) h.rw h.iv 256 0 5000 5000 _ (-1) rfl (by decide) (by decide) (Or.inl ⟨rfl, rfl⟩) (Or.inl (Nat.zero_le _))
  refine ⟨y, ?_, ?_, h.t 0⟩
  · rw [f_X10_shifts_e, pc_seated h.rw h.iv, Option.bind_some]
    exact y1 (Nat.zero_le _)
  · rw [f_X11_shifts_e, zl, pr_seated (u := z_up r 0 0 0) h.iv, Option.bind_some]
    exact y3
