/-! ALL products are there; a product as a series -/
theorem tA_all {D d0 d1 d2 rest j : Int} (p0 : 1 ≤ d0) (p1 : 1 ≤ d1) (h2 : 1 ≤ d2) (r1 : rest ≤ 15) {a b k : Int} (b0 : 0 ≤ b) (k0 : 0 ≤ k) (hk : D = 2 → k = 0) (e : a * d0 + b * d1 + k * (if D = 2 then 0 else d2) = rest) : ∀ (n : Nat) (a1 : Int), 0 ≤ a1 → a1 ≤ a → a < a1 + n → (j, a, b, k) ∈ tA D d0 d1 d2 rest j n a1 := by
  have kd : 0 ≤ k * (if D = 2 then 0 else d2) := Int.mul_nonneg k0 (by split <;> omega)
  have bd : b ≤ b * d1 := by
    have := Int.mul_le_mul_of_nonneg_left p1 b0
    omega
  intro n
  induction n with
  | zero => intro a1 _ h1 h2; omega
  | succ n ih =>
    intro a1 l0 l1 l2
    have mono : a1 * d0 ≤ a * d0 := Int.mul_le_mul_of_nonneg_right l1 (by omega)
    have a0 : 0 ≤ a * d0 := Int.mul_nonneg (by omega) (by omega)
    unfold tA
    rw [if_neg (by omega)]
    apply List.mem_append.mpr
    by_cases q : a = a1
    · subst q
      exact Or.inl (tB_all p1 h2 k0 hk e 17 0 b0 (by omega))
    · right
      exact ih (a1 + 1) (by omega) (by omega) (by omega)
theorem tJ_all {D d0 d1 d2 t : Int} {de : Int → Int} (p0 : 1 ≤ d0) (p1 : 1 ≤ d1) (h2 : 1 ≤ d2) (t1 : t ≤ 15) {j a b k : Int} (de0 : 0 ≤ de j) (a0 : 0 ≤ a) (b0 : 0 ≤ b) (k0 : 0 ≤ k) (hk : D = 2 → k = 0) (e : a * d0 + b * d1 + k * (if D = 2 then 0 else d2) = t - de j) : ∀ (n : Nat) (j1 : Int), j1 ≤ j → j < j1 + n → (j, a, b, k) ∈ tJ D d0 d1 d2 t de n j1 := by
  have kd : 0 ≤ k * (if D = 2 then 0 else d2) := Int.mul_nonneg k0 (by split <;> omega)
  have bd : 0 ≤ b * d1 := Int.mul_nonneg b0 (by omega)
  have ad : a ≤ a * d0 := by
    have := Int.mul_le_mul_of_nonneg_left p0 a0
    omega
  intro n
  induction n with
  | zero => intro j1 h1 h2; omega
  | succ n ih =>
    intro j1 l1 l2
    unfold tJ
    apply List.mem_append.mpr
    by_cases q : j = j1
    · subst q
      exact Or.inl (tA_all p0 p1 h2 (by omega) b0 k0 hk e 17 0 (by omega) a0 (by omega))
    · right
      exact ih (j1 + 1) (by omega) (by omega)
theorem tp_g1 {R : Type} [Lean.Grind.CommRing R] (p u v : R) : p * u * v = p * v * u := by grind
theorem tp_g2 {R : Type} [Lean.Grind.CommRing R] (u : R) : u = 1 * u := by grind
theorem tp_g3 {R : Type} [Lean.Grind.CommRing R] (a b k u : R) : k * (b * (a * u)) = a * (b * (k * u)) := by grind
theorem toP_tP {D : Int} (hD : D = 2 ∨ D = 3) {u v : Int → Int} (hu : vOk D u) : ∀ n : Nat, mDeg D u 0 + mDeg D v 0 * n ≤ 15 → toP D (tP D u v n) = cMul (cPow (toP D v) n) (toP D u) := by
  intro n
  induction n with
  | zero =>
    intro _
    show toP D u = cMul cOne (toP D u)
    rw [cOne_eq]
    exact @tp_g2 cP cPr (toP D u)
  | succ n ih =>
    intro h
    have e : mDeg D v 0 * ((n + 1 : Nat) : Int) = mDeg D v 0 * n + mDeg D v 0 := by
      rw [show ((n + 1 : Nat) : Int) = (n : Int) + 1 from rfl, Int.mul_add, Int.mul_one]
    have dv0 := (mDeg_bd hD v 0).1
    rw [e] at h
    have o := vOk_tP hD (v := v) hu n (by omega)
    show toP D (vMul D (tP D u v n) v) = cMul (cMul (cPow (toP D v) n) (toP D v)) (toP D u)
    rw [toP_mul hD (by omega), ih (by omega)]
    exact @tp_g1 cP cPr (cPow (toP D v) n) (toP D u) (toP D v)
theorem toP_pr3 {D : Int} (hD : D = 2 ∨ D = 3) {u v0 v1 v2 : Int → Int} (hu : vOk D u) {a b k : Nat} (h : mDeg D u 0 + mDeg D v0 0 * a + mDeg D v1 0 * b + mDeg D v2 0 * k ≤ 15) : toP D (pr3 D u v0 v1 v2 a b k) = cMul (cPow (toP D v0) a) (cMul (cPow (toP D v1) b) (cMul (cPow (toP D v2) k) (toP D u))) := by
  have q0 := Int.mul_nonneg (mDeg_bd hD v0 0).1 (show (0 : Int) ≤ a by omega)
  have q1 := Int.mul_nonneg (mDeg_bd hD v1 0).1 (show (0 : Int) ≤ b by omega)
  have q2 := Int.mul_nonneg (mDeg_bd hD v2 0).1 (show (0 : Int) ≤ k by omega)
  obtain ⟨o1, e1⟩ := vOk_tP hD (v := v0) hu a (by omega)
  obtain ⟨o2, e2⟩ := vOk_tP hD (v := v1) o1 b (by omega)
  unfold pr3
  rw [toP_tP hD o2 k (by omega), toP_tP hD o1 b (by omega), toP_tP hD hu a (by omega)]
  exact @tp_g3 cP cPr (cPow (toP D v0) a) (cPow (toP D v1) b) (cPow (toP D v2) k) (toP D u)
