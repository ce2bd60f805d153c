/-! THE PRODUCTS of a degree: which secondary one, which powers -/
abbrev tup4 : Type := Int × Int × Int × Int
/-- the power of the third that fills up the rest r -/
def tK (D d2 r : Int) : Option Int := if D = 2 then (if r = 0 then some 0 else none) else if Int.tmod r d2 = 0 then some (Int.tdiv r d2) else none
def tB1 (D d0 d1 d2 rest j a b : Int) : List tup4 := match tK D d2 (rest - a * d0 - b * d1) with
  | some k => [(j, a, b, k)]
  | none => []
def tB (D d0 d1 d2 rest j a : Int) : Nat → Int → List tup4
  | 0, _ => []
  | n + 1, b => if rest < a * d0 + b * d1 then [] else tB1 D d0 d1 d2 rest j a b ++ tB D d0 d1 d2 rest j a n (b + 1)
def tA (D d0 d1 d2 rest j : Int) : Nat → Int → List tup4
  | 0, _ => []
  | n + 1, a => if rest < a * d0 then [] else tB D d0 d1 d2 rest j a 17 0 ++ tA D d0 d1 d2 rest j n (a + 1)
def tJ (D d0 d1 d2 t : Int) (de : Int → Int) : Nat → Int → List tup4
  | 0, _ => []
  | n + 1, j => tA D d0 d1 d2 (t - de j) j 17 0 ++ tJ D d0 d1 d2 t de n (j + 1)
/-- what a tuple of rest keeps -/
def tOk (D d0 d1 d2 rest : Int) (x : tup4) : Prop := 0 ≤ x.2.1 ∧ 0 ≤ x.2.2.1 ∧ 0 ≤ x.2.2.2 ∧ (D = 2 → x.2.2.2 = 0) ∧ x.2.1 * d0 + x.2.2.1 * d1 + x.2.2.2 * (if D = 2 then 0 else d2) = rest
theorem tB1_ok {D d0 d1 d2 rest j a b : Int} (a0 : 0 ≤ a) (b0 : 0 ≤ b) (h2 : 1 ≤ d2) (le : a * d0 + b * d1 ≤ rest) : ∀ x, x ∈ tB1 D d0 d1 d2 rest j a b → x.1 = j ∧ x.2.1 = a ∧ x.2.2.1 = b ∧ tOk D d0 d1 d2 rest x := by
  intro x hx
  unfold tB1 tK at hx
  by_cases e : D = 2
  · rw [if_pos e] at hx
    by_cases r : rest - a * d0 - b * d1 = 0
    · rw [if_pos r] at hx
      have := List.mem_singleton.mp hx
      subst this
      refine ⟨rfl, rfl, rfl, a0, b0, by show (0 : Int) ≤ 0; omega, fun _ => rfl, ?_⟩
      show a * d0 + b * d1 + 0 * _ = rest
      rw [Int.zero_mul]
      omega
    · rw [if_neg r] at hx
      exact absurd hx List.not_mem_nil
  · rw [if_neg e] at hx
    by_cases r : Int.tmod (rest - a * d0 - b * d1) d2 = 0
    · rw [if_pos r] at hx
      have := List.mem_singleton.mp hx
      subst this
      have dm := Int.mul_tdiv_add_tmod (rest - a * d0 - b * d1) d2
      rw [r] at dm
      have nn : 0 ≤ Int.tdiv (rest - a * d0 - b * d1) d2 := Int.tdiv_nonneg (by omega) (by omega)
      refine ⟨rfl, rfl, rfl, a0, b0, nn, fun q => absurd q e, ?_⟩
      show a * d0 + b * d1 + Int.tdiv (rest - a * d0 - b * d1) d2 * (if D = 2 then 0 else d2) = rest
      rw [if_neg e, Int.mul_comm (Int.tdiv _ _)]
      omega
    · rw [if_neg r] at hx
      exact absurd hx List.not_mem_nil
theorem tB_ok {D d0 d1 d2 rest j a : Int} (a0 : 0 ≤ a) (h2 : 1 ≤ d2) : ∀ (n : Nat) (b : Int), 0 ≤ b → ∀ x, x ∈ tB D d0 d1 d2 rest j a n b → x.1 = j ∧ x.2.1 = a ∧ b ≤ x.2.2.1 ∧ tOk D d0 d1 d2 rest x := by
  intro n
  induction n with
  | zero => intro b _ x hx; exact absurd hx List.not_mem_nil
  | succ n ih =>
    intro b b0 x hx
    unfold tB at hx
    by_cases q : rest < a * d0 + b * d1
    · rw [if_pos q] at hx
      exact absurd hx List.not_mem_nil
    · rw [if_neg q] at hx
      rcases List.mem_append.mp hx with h | h
      · obtain ⟨x1, x2, x3, x4⟩ := tB1_ok a0 b0 h2 (by omega) x h
        exact ⟨x1, x2, by omega, x4⟩
      · obtain ⟨x1, x2, x3, x4⟩ := ih (b + 1) (by omega) x h
        exact ⟨x1, x2, by omega, x4⟩
theorem tA_ok {D d0 d1 d2 rest j : Int} (h2 : 1 ≤ d2) : ∀ (n : Nat) (a : Int), 0 ≤ a → ∀ x, x ∈ tA D d0 d1 d2 rest j n a → x.1 = j ∧ a ≤ x.2.1 ∧ tOk D d0 d1 d2 rest x := by
  intro n
  induction n with
  | zero => intro a _ x hx; exact absurd hx List.not_mem_nil
  | succ n ih =>
    intro a a0 x hx
    unfold tA at hx
    by_cases q : rest < a * d0
    · rw [if_pos q] at hx
      exact absurd hx List.not_mem_nil
    · rw [if_neg q] at hx
      rcases List.mem_append.mp hx with h | h
      · obtain ⟨x1, x2, x3, x4⟩ := tB_ok a0 h2 17 0 (by omega) x h
        exact ⟨x1, by omega, x4⟩
      · obtain ⟨x1, x2, x4⟩ := ih (a + 1) (by omega) x h
        exact ⟨x1, by omega, x4⟩
theorem tJ_ok {D d0 d1 d2 t : Int} {de : Int → Int} (h2 : 1 ≤ d2) : ∀ (n : Nat) (j : Int), ∀ x, x ∈ tJ D d0 d1 d2 t de n j → j ≤ x.1 ∧ x.1 < j + n ∧ tOk D d0 d1 d2 (t - de x.1) x := by
  intro n
  induction n with
  | zero => intro j x hx; exact absurd hx List.not_mem_nil
  | succ n ih =>
    intro j x hx
    unfold tJ at hx
    rcases List.mem_append.mp hx with h | h
    · obtain ⟨x1, x2, x3⟩ := tA_ok h2 17 0 (by omega) x h
      rw [x1]
      exact ⟨by omega, by omega, x3⟩
    · obtain ⟨x1, x2, x3⟩ := ih (j + 1) x h
      exact ⟨by omega, by omega, x3⟩
