/-! THE CLASS's members: tables as they stand; finding one -/
theorem mm_ext {A B C : cMat} (hC : isM C) (h : ∀ i j, i < 3 → j < 3 → C i j = A i 0 * B 0 j + A i 1 * B 1 j + A i 2 * B 2 j) : C = mm A B := by
  funext i j
  by_cases q : i < 3 ∧ j < 3
  · rw [mm_in q]; exact h i j q.1 q.2
  · rw [hC i j q, isM_mm A B i j q]
theorem isM_wmat {D : Int} (hD : D = 2 ∨ D = 3) (f : Int → Int) (g : Int) : isM (wmat D f g) := fun i j h => by
  unfold wmat
  rw [if_neg (by omega), if_neg (by omega)]
theorem wmat_in {D : Int} {f : Int → Int} {g : Int} {i j : Nat} (h : (i : Int) < D ∧ (j : Int) < D) : wmat D f g i j = toF (f (9 * g + D * i + j)) := if_pos h
theorem wmat_out {D : Int} {f : Int → Int} {g : Int} {i j : Nat} (h : ¬ ((i : Int) < D ∧ (j : Int) < D)) : wmat D f g i j = if i = j ∧ i < 3 then 1 else 0 := if_neg h
theorem wm_g2 {R : Type} [Lean.Grind.CommRing R] (a b c e x : R) : 0 + a * b + c * e = a * b + c * e + 0 * x := by grind
theorem wm_g3 {R : Type} [Lean.Grind.CommRing R] (a b c e x y : R) : 0 + a * b + c * e + x * y = a * b + c * e + x * y := by grind
theorem wm_g4 {R : Type} [Lean.Grind.CommRing R] (a b : R) : 0 = a * 0 + b * 0 + 0 * 1 := by grind
theorem wm_g5 {R : Type} [Lean.Grind.CommRing R] (a b : R) : 0 = 0 * a + 0 * b + 1 * 0 := by grind
theorem wm_g6 {R : Type} [Lean.Grind.CommRing R] : (1 : R) = 0 * 0 + 0 * 0 + 1 * 1 := by grind
theorem wmat_tF {D : Int} (hD : D = 2 ∨ D = 3) (f h e : Int → Int) (g t : Int) : wmat D (wTF D (wEnt D f h g t) D 0 e) 0 = mm (wmat D f g) (wmat D h t) := by
  have v : ∀ i j : Nat, (i : Int) < D → (j : Int) < D → toF (wTF D (wEnt D f h g t) D 0 e (9 * 0 + D * i + j)) = fs D.toNat fun m => toF (f (9 * g + D * i + m)) * toF (h (9 * t + D * m + j)) := by
    intro i j hi hj
    have e1 : wTF D (wEnt D f h g t) D 0 e (9 * 0 + D * i + j) = wEnt D f h g t i j := by
      unfold wTF
      rcases hD with w | w <;> subst w
      · rw [if_pos (by omega), show (9 * 0 + 2 * (i : Int) + j) / 2 = i by omega, show (9 * 0 + 2 * (i : Int) + j) % 2 = j by omega]
      · rw [if_pos (by omega), show (9 * 0 + 3 * (i : Int) + j) / 3 = i by omega, show (9 * 0 + 3 * (i : Int) + j) % 3 = j by omega]
    rw [e1]
    unfold wEnt wSum
    rw [toF_mod, toF_sg]
    congr 1
    funext m
    exact toF_mul _ _
  refine mm_ext (isM_wmat hD _ _) fun i j hi hj => ?_
  by_cases q : (i : Int) < D ∧ (j : Int) < D
  · rw [wmat_in q, v i j q.1 q.2]
    rcases hD with w | w <;> subst w
    · rw [wmat_in (i := i) (j := 0) ⟨q.1, by omega⟩, wmat_in (i := i) (j := 1) ⟨q.1, by omega⟩, wmat_in (i := 0) (j := j) ⟨by omega, q.2⟩, wmat_in (i := 1) (j := j) ⟨by omega, q.2⟩, wmat_out (i := i) (j := 2) (by omega), if_neg (show ¬ (i = 2 ∧ i < 3) by omega)]
      exact wm_g2 _ _ _ _ _
    · rw [wmat_in (i := i) (j := 0) ⟨q.1, by omega⟩, wmat_in (i := i) (j := 1) ⟨q.1, by omega⟩, wmat_in (i := i) (j := 2) ⟨q.1, by omega⟩, wmat_in (i := 0) (j := j) ⟨by omega, q.2⟩, wmat_in (i := 1) (j := j) ⟨by omega, q.2⟩, wmat_in (i := 2) (j := j) ⟨by omega, q.2⟩]
      exact wm_g3 _ _ _ _ _ _
  · have e2 : D = 2 := by omega
    subst e2
    rw [wmat_out q]
    by_cases i2 : i = 2
    · subst i2
      rw [wmat_out (f := f) (i := 2) (j := 0) (by omega), wmat_out (f := f) (i := 2) (j := 1) (by omega), wmat_out (f := f) (i := 2) (j := 2) (by omega), wmat_out (f := h) (i := 2) (j := j) (by omega), if_neg (show ¬ (2 = 0 ∧ 2 < 3) by omega), if_neg (show ¬ (2 = 1 ∧ 2 < 3) by omega), if_pos (show (2 = 2 ∧ 2 < 3) by omega)]
      by_cases j2 : j = 2
      · subst j2
        rw [if_pos (show (2 = 2 ∧ 2 < 3) by omega)]
        rw [wmat_out (f := h) (i := 0) (j := 2) (by omega), wmat_out (f := h) (i := 1) (j := 2) (by omega), if_neg (show ¬ (0 = 2 ∧ 0 < 3) by omega), if_neg (show ¬ (1 = 2 ∧ 1 < 3) by omega)]
        exact wm_g6
      · rw [if_neg (show ¬ (2 = j ∧ 2 < 3) by omega)]
        exact wm_g5 _ _
    · have j2 : j = 2 := by omega
      subst j2
      rw [if_neg (show ¬ (i = 2 ∧ i < 3) by omega), wmat_out (f := h) (i := 0) (j := 2) (by omega), wmat_out (f := h) (i := 1) (j := 2) (by omega), wmat_out (f := h) (i := 2) (j := 2) (by omega), wmat_out (f := f) (i := i) (j := 2) (by omega), if_neg (show ¬ (0 = 2 ∧ 0 < 3) by omega), if_neg (show ¬ (1 = 2 ∧ 1 < 3) by omega), if_pos (show (2 = 2 ∧ 2 < 3) by omega), if_neg (show ¬ (i = 2 ∧ i < 3) by omega)]
      exact wm_g4 _ _
/-- equal as they stand, equal as tables -/
theorem wmat_same {D : Int} (hD : D = 2 ∨ D = 3) {f h : Int → Int} {g k : Int} (of : okR f) (oh : okR h) : (∀ x, 0 ≤ x → x < D * D → f (9 * g + x) = h (9 * k + x)) ↔ wmat D f g = wmat D h k := by
  constructor
  · intro H
    funext i j
    by_cases q : (i : Int) < D ∧ (j : Int) < D
    · rw [wmat_in q, wmat_in q]
      have := H (D * i + j) (by rcases hD with w | w <;> subst w <;> omega) (by rcases hD with w | w <;> subst w <;> omega)
      rw [show 9 * g + D * (i : Int) + j = 9 * g + (D * i + j) by omega, this, show 9 * k + D * (i : Int) + j = 9 * k + (D * i + j) by omega]
    · rw [wmat_out q, wmat_out q]
  · intro H x x0 x1
    have a := of (9 * g + x)
    have b := oh (9 * k + x)
    rcases hD with w | w <;> subst w
    · have := congrFun (congrFun H (x / 2).toNat) (x % 2).toNat
      rw [wmat_in (by omega), wmat_in (by omega), toF_eq, show 9 * g + 2 * (((x / 2).toNat : Nat) : Int) + (((x % 2).toNat : Nat) : Int) = 9 * g + x by omega, show 9 * k + 2 * (((x / 2).toNat : Nat) : Int) + (((x % 2).toNat : Nat) : Int) = 9 * k + x by omega] at this
      omega
    · have := congrFun (congrFun H (x / 3).toNat) (x % 3).toNat
      rw [wmat_in (by omega), wmat_in (by omega), toF_eq, show 9 * g + 3 * (((x / 3).toNat : Nat) : Int) + (((x % 3).toNat : Nat) : Int) = 9 * g + x by omega, show 9 * k + 3 * (((x / 3).toNat : Nat) : Int) + (((x % 3).toNat : Nat) : Int) = 9 * k + x by omega] at this
      omega
