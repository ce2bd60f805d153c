/-! NO product comes twice -/
theorem tB1_nd (D d0 d1 d2 rest j a b : Int) : List.Pairwise (· ≠ ·) (tB1 D d0 d1 d2 rest j a b) := by
  unfold tB1
  split
  · exact List.pairwise_singleton _ _
  · exact List.Pairwise.nil
theorem tB_nd {D d0 d1 d2 rest j a : Int} (a0 : 0 ≤ a) (h2 : 1 ≤ d2) : ∀ (n : Nat) (b : Int), 0 ≤ b → List.Pairwise (· ≠ ·) (tB D d0 d1 d2 rest j a n b) := by
  intro n
  induction n with
  | zero => intro b _; exact List.Pairwise.nil
  | succ n ih =>
    intro b b0
    unfold tB
    by_cases q : rest < a * d0 + b * d1
    · rw [if_pos q]
      exact List.Pairwise.nil
    · rw [if_neg q]
      refine List.pairwise_append.mpr ⟨tB1_nd _ _ _ _ _ _ _ _, ih (b + 1) (by omega), fun x hx y hy e => ?_⟩
      have p := tB1_ok a0 b0 h2 (by omega) x hx
      have r := tB_ok a0 h2 n (b + 1) (by omega) y hy
      rw [e] at p
      omega
theorem tA_nd {D d0 d1 d2 rest j : Int} (h2 : 1 ≤ d2) : ∀ (n : Nat) (a : Int), 0 ≤ a → List.Pairwise (· ≠ ·) (tA D d0 d1 d2 rest j n a) := by
  intro n
  induction n with
  | zero => intro b _; exact List.Pairwise.nil
  | succ n ih =>
    intro a a0
    unfold tA
    by_cases q : rest < a * d0
    · rw [if_pos q]
      exact List.Pairwise.nil
    · rw [if_neg q]
      refine List.pairwise_append.mpr ⟨tB_nd a0 h2 17 0 (by omega), ih (a + 1) (by omega), fun x hx y hy e => ?_⟩
      have p := tB_ok a0 h2 17 0 (by omega) x hx
      have r := tA_ok h2 n (a + 1) (by omega) y hy
      rw [e] at p
      omega
theorem tJ_nd {D d0 d1 d2 t : Int} {de : Int → Int} (h2 : 1 ≤ d2) : ∀ (n : Nat) (j : Int), List.Pairwise (· ≠ ·) (tJ D d0 d1 d2 t de n j) := by
  intro n
  induction n with
  | zero => intro j; exact List.Pairwise.nil
  | succ n ih =>
    intro j
    unfold tJ
    refine List.pairwise_append.mpr ⟨tA_nd h2 17 0 (by omega), ih (j + 1), fun x hx y hy e => ?_⟩
    have p := tA_ok h2 17 0 (by omega) x hx
    have r := tJ_ok h2 n (j + 1) y hy
    rw [e] at p
    omega
/-- all are there -/
theorem tB_all {D d0 d1 d2 rest j a : Int} (p1 : 1 ≤ d1) (h2 : 1 ≤ d2) {b k : Int} (k0 : 0 ≤ k) (hk : D = 2 → k = 0) (e : a * d0 + b * d1 + k * (if D = 2 then 0 else d2) = rest) : ∀ (n : Nat) (b1 : Int), b1 ≤ b → b < b1 + n → (j, a, b, k) ∈ tB D d0 d1 d2 rest j a n b1 := by
  have kd : 0 ≤ k * (if D = 2 then 0 else d2) := Int.mul_nonneg k0 (by split <;> omega)
  intro n
  induction n with
  | zero => intro b1 h1 h2; omega
  | succ n ih =>
    intro b1 l1 l2
    have mono : b1 * d1 ≤ b * d1 := Int.mul_le_mul_of_nonneg_right l1 (by omega)
    unfold tB
    rw [if_neg (by omega)]
    apply List.mem_append.mpr
    by_cases q : b = b1
    · subst q
      left
      unfold tB1 tK
      have er : rest - a * d0 - b * d1 = k * (if D = 2 then 0 else d2) := by omega
      rw [er]
      by_cases e2 : D = 2
      · rw [if_pos e2, if_pos e2, Int.mul_zero, if_pos rfl, hk e2]
        exact List.mem_singleton.mpr rfl
      · rw [if_neg e2, if_neg e2, Int.mul_tmod_left, if_pos rfl, Int.mul_tdiv_cancel _ (by omega)]
        exact List.mem_singleton.mpr rfl
    · right
      exact ih (b1 + 1) (by omega) (by omega)
