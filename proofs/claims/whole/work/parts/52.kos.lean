/-! KOSZUL: three elements in whose ideal lie regular X, Y, Z have no relations but the plain ones -/
section KZ
variable {R : Type}
theorem kz_h3 [Lean.Grind.CommRing R] {t1 t2 t3 X Y Z c1 c2 c3 : R} (eZ : Z = c1 * t1 + c2 * t2 + c3 * t3) (rZ : ∀ u v w, Z * u = X * v + Y * w → ∃ a b, u = X * a + Y * b) {m : R} (h1 : ∃ a b, t1 * m = X * a + Y * b) (h2 : ∃ a b, t2 * m = X * a + Y * b) (h3 : ∃ a b, t3 * m = X * a + Y * b) : ∃ a b, m = X * a + Y * b := by
  obtain ⟨a1, b1, e1⟩ := h1
  obtain ⟨a2, b2, e2⟩ := h2
  obtain ⟨a3, b3, e3⟩ := h3
  refine rZ m (c1 * a1 + c2 * a2 + c3 * a3) (c1 * b1 + c2 * b2 + c3 * b3) ?_
  have e : Z * m = c1 * (t1 * m) + c2 * (t2 * m) + c3 * (t3 * m) := by rw [eZ]; grind
  rw [e, e1, e2, e3]
  grind
theorem kz_h2 [Lean.Grind.CommRing R] {t1 t2 t3 X Y Z c1 c2 c3 b1 b2 b3 : R} (eZ : Z = c1 * t1 + c2 * t2 + c3 * t3) (eY : Y = b1 * t1 + b2 * t2 + b3 * t3) (rZ : ∀ u v w, Z * u = X * v + Y * w → ∃ a b, u = X * a + Y * b) (rY : ∀ u v, Y * u = X * v → ∃ w, u = X * w) {u1 u2 u3 s12 s13 s23 : R} (h12 : t1 * u2 = t2 * u1 + X * s12) (h13 : t1 * u3 = t3 * u1 + X * s13) (h23 : t2 * u3 = t3 * u2 + X * s23) : ∃ w v1 v2 v3, u1 = t1 * w + X * v1 ∧ u2 = t2 * w + X * v2 ∧ u3 = t3 * w + X * v3 := by
  have y1 : Y * u1 = t1 * (b1 * u1 + b2 * u2 + b3 * u3) - X * (b2 * s12 + b3 * s13) := by
    have e : Y * u1 = b1 * (t1 * u1) + b2 * (t2 * u1) + b3 * (t3 * u1) := by rw [eY]; grind
    have e2 : t2 * u1 = t1 * u2 - X * s12 := by rw [h12]; grind
    have e3 : t3 * u1 = t1 * u3 - X * s13 := by rw [h13]; grind
    rw [e, e2, e3]
    grind
  have y2 : Y * u2 = t2 * (b1 * u1 + b2 * u2 + b3 * u3) - X * (b3 * s23 - b1 * s12) := by
    have e : Y * u2 = b1 * (t1 * u2) + b2 * (t2 * u2) + b3 * (t3 * u2) := by rw [eY]; grind
    have e3 : t3 * u2 = t2 * u3 - X * s23 := by rw [h23]; grind
    rw [e, h12, e3]
    grind
  have y3 : Y * u3 = t3 * (b1 * u1 + b2 * u2 + b3 * u3) + X * (b1 * s13 + b2 * s23) := by
    have e : Y * u3 = b1 * (t1 * u3) + b2 * (t2 * u3) + b3 * (t3 * u3) := by rw [eY]; grind
    rw [e, h13, h23]
    grind
  obtain ⟨a, w, ev⟩ := kz_h3 (X := X) (Y := Y) eZ rZ (m := b1 * u1 + b2 * u2 + b3 * u3) ⟨b2 * s12 + b3 * s13, u1, by rw [y1]; grind⟩ ⟨b3 * s23 - b1 * s12, u2, by rw [y2]; grind⟩ ⟨-(b1 * s13 + b2 * s23), u3, by rw [y3]; grind⟩
  rw [ev] at y1 y2 y3
  obtain ⟨v1, e1⟩ := rY (u1 - t1 * w) (t1 * a - (b2 * s12 + b3 * s13)) (by
    have : Y * (u1 - t1 * w) = Y * u1 - Y * (t1 * w) := by grind
    rw [this, y1]; grind)
  obtain ⟨v2, e2⟩ := rY (u2 - t2 * w) (t2 * a - (b3 * s23 - b1 * s12)) (by
    have : Y * (u2 - t2 * w) = Y * u2 - Y * (t2 * w) := by grind
    rw [this, y2]; grind)
  obtain ⟨v3, e3⟩ := rY (u3 - t3 * w) (t3 * a + (b1 * s13 + b2 * s23)) (by
    have : Y * (u3 - t3 * w) = Y * u3 - Y * (t3 * w) := by grind
    rw [this, y3]; grind)
  exact ⟨w, v1, v2, v3, by rw [← e1]; grind, by rw [← e2]; grind, by rw [← e3]; grind⟩
theorem kz_h1 [Lean.Grind.CommRing R] {t1 t2 t3 X Y Z c1 c2 c3 b1 b2 b3 a1 a2 a3 : R} (eZ : Z = c1 * t1 + c2 * t2 + c3 * t3) (eY : Y = b1 * t1 + b2 * t2 + b3 * t3) (eX : X = a1 * t1 + a2 * t2 + a3 * t3) (rZ : ∀ u v w, Z * u = X * v + Y * w → ∃ a b, u = X * a + Y * b) (rY : ∀ u v, Y * u = X * v → ∃ w, u = X * w) (rX : ∀ u, X * u = 0 → u = 0) {u1 u2 u3 : R} (h : t1 * u1 + t2 * u2 + t3 * u3 = 0) : ∃ w1 w2 w3, u1 = t3 * w2 - t2 * w3 ∧ u2 = t1 * w3 - t3 * w1 ∧ u3 = t2 * w1 - t1 * w2 := by
  -- w = a × u
  have i1 : t2 * (a1 * u2 - a2 * u1) - t3 * (a3 * u1 - a1 * u3) = - (X * u1) := by
    have : t2 * (a1 * u2 - a2 * u1) - t3 * (a3 * u1 - a1 * u3) = a1 * (t1 * u1 + t2 * u2 + t3 * u3) - (a1 * t1 + a2 * t2 + a3 * t3) * u1 := by grind
    rw [this, h, ← eX]; grind
  have i2 : t3 * (a2 * u3 - a3 * u2) - t1 * (a1 * u2 - a2 * u1) = - (X * u2) := by
    have : t3 * (a2 * u3 - a3 * u2) - t1 * (a1 * u2 - a2 * u1) = a2 * (t1 * u1 + t2 * u2 + t3 * u3) - (a1 * t1 + a2 * t2 + a3 * t3) * u2 := by grind
    rw [this, h, ← eX]; grind
  have i3 : t1 * (a3 * u1 - a1 * u3) - t2 * (a2 * u3 - a3 * u2) = - (X * u3) := by
    have : t1 * (a3 * u1 - a1 * u3) - t2 * (a2 * u3 - a3 * u2) = a3 * (t1 * u1 + t2 * u2 + t3 * u3) - (a1 * t1 + a2 * t2 + a3 * t3) * u3 := by grind
    rw [this, h, ← eX]; grind
  generalize hw1 : a2 * u3 - a3 * u2 = w1 at i1 i2 i3
  generalize hw2 : a3 * u1 - a1 * u3 = w2 at i1 i2 i3
  generalize hw3 : a1 * u2 - a2 * u1 = w3 at i1 i2 i3
  obtain ⟨v, x1, x2, x3, e1, e2, e3⟩ := kz_h2 (X := X) eZ eY rZ rY (u1 := w1) (u2 := w2) (u3 := w3) (s12 := - u3) (s13 := u2) (s23 := - u1) (by
    have : t1 * w2 = t2 * w1 + (t1 * w2 - t2 * w1) := by grind
    rw [this, i3]; grind) (by
    have : t1 * w3 = t3 * w1 - (t3 * w1 - t1 * w3) := by grind
    rw [this, i2]; grind) (by
    have : t2 * w3 = t3 * w2 + (t2 * w3 - t3 * w2) := by grind
    rw [this, i1]; grind)
  rw [e3, e2] at i1
  rw [e1, e3] at i2
  rw [e2, e1] at i3
  refine ⟨x1, x2, x3, ?_, ?_, ?_⟩
  · have := rX (u1 - (t3 * x2 - t2 * x3)) (by
      have q : X * (u1 - (t3 * x2 - t2 * x3)) = - (- (X * u1)) - (t3 * (X * x2) - t2 * (X * x3)) := by grind
      rw [q, ← i1]; grind)
    have q : u1 = (u1 - (t3 * x2 - t2 * x3)) + (t3 * x2 - t2 * x3) := by grind
    rw [q, this]; grind
  · have := rX (u2 - (t1 * x3 - t3 * x1)) (by
      have q : X * (u2 - (t1 * x3 - t3 * x1)) = - (- (X * u2)) - (t1 * (X * x3) - t3 * (X * x1)) := by grind
      rw [q, ← i2]; grind)
    have q : u2 = (u2 - (t1 * x3 - t3 * x1)) + (t1 * x3 - t3 * x1) := by grind
    rw [q, this]; grind
  · have := rX (u3 - (t2 * x1 - t1 * x2)) (by
      have q : X * (u3 - (t2 * x1 - t1 * x2)) = - (- (X * u3)) - (t2 * (X * x1) - t1 * (X * x2)) := by grind
      rw [q, ← i3]; grind)
    have q : u3 = (u3 - (t2 * x1 - t1 * x2)) + (t2 * x1 - t1 * x2) := by grind
    rw [q, this]; grind
/-- sums of powers of t with what is apart from J and t -/
theorem t_ind [Lean.Grind.CommRing R] {J V : R → Prop} {t : R} (Js : ∀ a b, J a → J b → J (a - b)) (hV : ∀ v, V v → (∃ j s, J j ∧ v = j + t * s) → v = 0) (rg : ∀ u, J (t * u) → J u) : ∀ (n : Nat) (v : Nat → R), (∀ i, i < n → V (v i)) → J (gs n fun i => t ^ i * v i) → ∀ i, i < n → v i = 0 := by
  intro n
  induction n with
  | zero => intro v _ _ i hi; omega
  | succ n ih =>
    intro v hv hJ i hi
    rw [gs_head] at hJ
    have e : gs n (fun i => t ^ (i + 1) * v (i + 1)) = t * gs n (fun i => t ^ i * v (i + 1)) := by
      rw [← gs_mul]
      refine gs_congr fun i _ => ?_
      show t ^ (i + 1) * v (i + 1) = t * (t ^ i * v (i + 1))
      grind
    have e0 : t ^ 0 * v 0 = v 0 := by grind
    rw [e0, e] at hJ
    have v0 : v 0 = 0 := hV (v 0) (hv 0 (by omega)) ⟨_, - gs n (fun i => t ^ i * v (i + 1)), hJ, by grind⟩
    rw [v0] at hJ
    have hJ2 : J (gs n fun i => t ^ i * v (i + 1)) := rg _ (by
      have q : (0 : R) + t * gs n (fun i => t ^ i * v (i + 1)) = t * gs n (fun i => t ^ i * v (i + 1)) := by grind
      rw [q] at hJ
      exact hJ)
    by_cases hi0 : i = 0
    · rw [hi0]; exact v0
    · have := ih (fun i => v (i + 1)) (fun i hi => hv (i + 1) (by omega)) hJ2 (i - 1) (by omega)
      rw [show i = i - 1 + 1 by omega]
      exact this
end KZ
