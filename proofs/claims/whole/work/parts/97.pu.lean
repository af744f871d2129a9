/-! PURE, 48: things and places -/
theorem ren_le {t : Nat → Int32} {n p : Nat} (h : p < n) : p + 1 ≤ ren t n p ∧ ren t n p ≤ n := by
  have := rke_le t (kd (t p)) (n - (p + 1)) (p + 1)
  unfold ren
  omega
theorem spT_f {t : Nat → Int32} {n : Nat} : ∀ f f' p, n - p ≤ f → n - p ≤ f' → spT t n f p = spT t n f' p := by
  intro f
  induction f with
  | zero =>
    intro f' p h1 h2
    cases f' with
    | zero => rfl
    | succ f' => exact (if_neg (show ¬ p < n by omega)).symm
  | succ f ih =>
    intro f' p h1 h2
    cases f' with
    | zero => exact if_neg (show ¬ p < n by omega)
    | succ f' =>
      by_cases hp : p < n
      · have hr := ren_le (t := t) hp
        have e : spT t n f (ren t n p) = spT t n f' (ren t n p) := ih f' (ren t n p) (by omega) (by omega)
        have e1 : spT t n (f + 1) p = (if t p = 32 then spT t n f (ren t n p) else (p, ren t n p) :: spT t n f (ren t n p)) := if_pos hp
        have e2 : spT t n (f' + 1) p = (if t p = 32 then spT t n f' (ren t n p) else (p, ren t n p) :: spT t n f' (ren t n p)) := if_pos hp
        rw [e1, e2, e]
      · exact (if_neg hp).trans (if_neg hp).symm
theorem ren_32 {t : Nat → Int32} {n p : Nat} (h : t p = 32) : ren t n p = p + 1 := by
  unfold ren
  rw [h, show kd 32 = -1 by decide]
  cases n - (p + 1) with
  | zero => rfl
  | succ d => exact if_pos (by decide)
/-- the things behind the place p -/
def Th (t : Nat → Int32) (n p : Nat) : List (Nat × Nat) := spT t n (n - p) p
theorem Th_e {t : Nat → Int32} {n : Nat} : ∀ d p, p + d = n → Th t n p = (if skp t d p < n then (skp t d p, ren t n (skp t d p)) :: Th t n (ren t n (skp t d p)) else [])
  | 0, p, h => by
    have e : Th t n p = [] := by unfold Th; rw [show n - p = 0 by omega]; rfl
    rw [e]
    exact (if_neg (show ¬ p < n by omega)).symm
  | d + 1, p, h => by
    have hp : p < n := by omega
    have hr := ren_le (t := t) hp
    have e1 : Th t n p = (if t p = 32 then spT t n d (ren t n p) else (p, ren t n p) :: spT t n d (ren t n p)) := by
      unfold Th
      rw [show n - p = d + 1 by omega]
      exact if_pos hp
    have e2 : spT t n d (ren t n p) = Th t n (ren t n p) := spT_f _ _ _ (by omega) (Nat.le_refl _)
    have es : skp t (d + 1) p = if t p = 32 then skp t d (p + 1) else p := rfl
    rw [e1, e2, es]
    by_cases h32 : t p = 32
    · rw [if_pos h32, if_pos h32, ren_32 h32]
      exact Th_e d (p + 1) (by omega)
    · rw [if_neg h32, if_neg h32, if_pos hp]
