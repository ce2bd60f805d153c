/-! THE CLASS: monomials that become monomials -/
def mnP (x y w : Nat) : cP := fun a b c => if a = x ∧ b = y ∧ c = w then 1 else 0
theorem lm_congr {l l' : Nat → cF} (h0 : l 0 = l' 0) (h1 : l 1 = l' 1) (h2 : l 2 = l' 2) (P : cP) : lm l P = lm l' P := by
  unfold lm
  rw [h0, h1, h2]
theorem st_g1 {R : Type} [Lean.Grind.CommRing R] (a b c : R) : a + 0 * b + 0 * c = a := by grind
theorem st_g2 {R : Type} [Lean.Grind.CommRing R] (a b c : R) : 0 * b + a + 0 * c = a := by grind
theorem st_g3 {R : Type} [Lean.Grind.CommRing R] (a b c : R) : 0 * b + 0 * c + a = a := by grind
theorem it_mul0 {R : Type} [Lean.Grind.CommRing R] (p : Prop) [Decidable p] (x : R) : (if p then 0 else 0 * x) = 0 * x := by
  split
  · exact (gs_z1 x).symm
  · rfl
/-- a form of one variable -/
def sg1 (v : Nat) (k : cF) : Nat → cF := fun j => if j = v then k else 0
theorem lm_st {v : Nat} (hv : v < 3) (k : cF) (x y w : Nat) : lm (sg1 v k) (mnP x y w) = cS k (mnP (x + if v = 0 then 1 else 0) (y + if v = 1 then 1 else 0) (w + if v = 2 then 1 else 0)) := by
  funext a b c
  have hv' : v = 0 ∨ v = 1 ∨ v = 2 := by omega
  show (if a = 0 then 0 else sg1 v k 0 * mnP x y w (a - 1) b c) + (if b = 0 then 0 else sg1 v k 1 * mnP x y w a (b - 1) c) + (if c = 0 then 0 else sg1 v k 2 * mnP x y w a b (c - 1)) = k * _
  rcases hv' with e | e | e <;> subst e
  · rw [show sg1 0 k 0 = k from if_pos rfl, show sg1 0 k 1 = 0 from if_neg (by decide), show sg1 0 k 2 = 0 from if_neg (by decide), it_mul0, it_mul0, st_g1]
    unfold mnP
    rw [if_pos (show (0 : Nat) = 0 from rfl), if_neg (show ¬ (0 : Nat) = 1 by decide), if_neg (show ¬ (0 : Nat) = 2 by decide)]
    by_cases q : a = 0
    · rw [if_pos q, if_neg (by omega), gs_z3]
    · rw [if_neg q]
      by_cases r : a - 1 = x ∧ b = y ∧ c = w
      · rw [if_pos r, if_pos (by omega)]
      · rw [if_neg r, if_neg (by omega)]
  · rw [show sg1 1 k 0 = 0 from if_neg (by decide), show sg1 1 k 1 = k from if_pos rfl, show sg1 1 k 2 = 0 from if_neg (by decide), it_mul0, it_mul0, st_g2]
    unfold mnP
    rw [if_neg (show ¬ 1 = 0 by decide), if_pos rfl, if_neg (show ¬ 1 = 2 by decide)]
    by_cases q : b = 0
    · rw [if_pos q, if_neg (by omega), gs_z3]
    · rw [if_neg q]
      by_cases r : a = x ∧ b - 1 = y ∧ c = w
      · rw [if_pos r, if_pos (by omega)]
      · rw [if_neg r, if_neg (by omega)]
  · rw [show sg1 2 k 0 = 0 from if_neg (by decide), show sg1 2 k 1 = 0 from if_neg (by decide), show sg1 2 k 2 = k from if_pos rfl, it_mul0, it_mul0, st_g3]
    unfold mnP
    rw [if_neg (show ¬ 2 = 0 by decide), if_neg (show ¬ 2 = 1 by decide), if_pos rfl]
    by_cases q : c = 0
    · rw [if_pos q, if_neg (by omega), gs_z3]
    · rw [if_neg q]
      by_cases r : a = x ∧ b = y ∧ c - 1 = w
      · rw [if_pos r, if_pos (by omega)]
      · rw [if_neg r, if_neg (by omega)]
theorem st_g4 {R : Type} [Lean.Grind.CommRing R] (a b c : R) : a * b * c = a * c * b := by grind
theorem cS_S (j k : cF) (P : cP) : cS j (cS k P) = cS (j * k) P := by
  funext a b c
  exact (gs_z5 j k _).symm
theorem lpow_st {v : Nat} (hv : v < 3) (k : cF) (n x y w : Nat) (m : cF) : lpow (sg1 v k) n (cS m (mnP x y w)) = cS (fPow k n * m) (mnP (x + if v = 0 then n else 0) (y + if v = 1 then n else 0) (w + if v = 2 then n else 0)) := by
  induction n with
  | zero =>
    show cS m (mnP x y w) = _
    rw [ite_self, ite_self, ite_self, Nat.add_zero, Nat.add_zero, Nat.add_zero, show fPow k 0 = 1 from rfl, gs_z2]
  | succ n ih =>
    show lm (sg1 v k) (lpow (sg1 v k) n (cS m (mnP x y w))) = _
    rw [ih, lm_S, lm_st hv, cS_S]
    have e1 : fPow k n * m * k = fPow k (n + 1) * m := by
      show fPow k n * m * k = fPow k n * k * m
      exact st_g4 _ _ _
    rw [e1]
    congr 2 <;> split <;> omega
/-- each variable becomes a number times one variable -/
def stA (t0 t1 t2 : Nat) (k0 k1 k2 : cF) (A : cMat) : Prop := t0 < 3 ∧ t1 < 3 ∧ t2 < 3 ∧ t0 ≠ t1 ∧ t0 ≠ t2 ∧ t1 ≠ t2 ∧ (∀ j, j < 3 → A 0 j = sg1 t0 k0 j) ∧ (∀ j, j < 3 → A 1 j = sg1 t1 k1 j) ∧ ∀ j, j < 3 → A 2 j = sg1 t2 k2 j
def tgE (t0 t1 t2 v a b c : Nat) : Nat := (if t0 = v then a else 0) + (if t1 = v then b else 0) + (if t2 = v then c else 0)
theorem lpow_congr {l l' : Nat → cF} (h0 : l 0 = l' 0) (h1 : l 1 = l' 1) (h2 : l 2 = l' 2) (n : Nat) (P : cP) : lpow l n P = lpow l' n P := by
  induction n with
  | zero => rfl
  | succ n ih =>
    show lm l (lpow l n P) = lm l' (lpow l' n P)
    rw [ih, lm_congr h0 h1 h2]
theorem mono_st {t0 t1 t2 : Nat} {k0 k1 k2 : cF} {A : cMat} (h : stA t0 t1 t2 k0 k1 k2 A) (a b c : Nat) : mono A a b c = cS (fPow k0 a * (fPow k1 b * (fPow k2 c * 1))) (mnP (tgE t0 t1 t2 0 a b c) (tgE t0 t1 t2 1 a b c) (tgE t0 t1 t2 2 a b c)) := by
  obtain ⟨h0, h1, h2, n1, n2, n3, e0, e1, e2⟩ := h
  unfold mono
  rw [lpow_congr (e0 0 (by decide)) (e0 1 (by decide)) (e0 2 (by decide)), lpow_congr (e1 0 (by decide)) (e1 1 (by decide)) (e1 2 (by decide)), lpow_congr (e2 0 (by decide)) (e2 1 (by decide)) (e2 2 (by decide)), show cOne = cS 1 (mnP 0 0 0) from (cS_1 _).symm, lpow_st h2, lpow_st h1, lpow_st h0]
  congr 1
  unfold tgE
  congr 1 <;> omega
