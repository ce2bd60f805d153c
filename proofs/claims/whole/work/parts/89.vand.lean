/-! A POLYNOMIAL over a domain with more roots than its degree -/
section
variable {R : Type}
def hv [Lean.Grind.CommRing R] : Nat → (Nat → R) → R → R
  | 0, _, _ => 0
  | n + 1, u, x => u 0 + x * hv n (fun i => u (i + 1)) x
theorem vd_1 [Lean.Grind.CommRing R] (u x r H w : R) : u + x * (H + (x - r) * w) = u + r * H + (x - r) * (H + x * w) := by grind
theorem vd_2 [Lean.Grind.CommRing R] (u x r : R) : u + x * 0 = u + r * 0 + (x - r) * 0 := by grind
theorem vd_3 [Lean.Grind.CommRing R] (u r : R) (h : u + r * 0 = 0) : u = 0 := by grind
theorem vd_4 [Lean.Grind.CommRing R] (a b x r : R) (h : a = b + x * r) (h1 : a = 0) (h2 : b = 0) : x * r = 0 := by grind
theorem vd_5 [Lean.Grind.CommRing R] (x r : R) (h : x - r = 0) : x = r := by grind
theorem hv_z [Lean.Grind.CommRing R] : ∀ (n : Nat) (u : Nat → R) (x : R), (∀ i, i < n → u i = 0) → hv n u x = 0 := by
  intro n
  induction n with
  | zero => intro u x _; rfl
  | succ n ih =>
    intro u x h
    show u 0 + x * hv n (fun i => u (i + 1)) x = 0
    rw [ih (fun i => u (i + 1)) x (fun i hi => h (i + 1) (by omega)), h 0 (by omega)]
    rw [Lean.Grind.Semiring.mul_zero, Lean.Grind.Semiring.add_zero]
theorem hv_div [Lean.Grind.CommRing R] (r : R) : ∀ (n : Nat) (u : Nat → R), ∃ q : Nat → R, (∀ x, hv (n + 1) u x = hv (n + 1) u r + (x - r) * hv n q x) ∧ ((∀ i, i < n → q i = 0) → ∀ i, 1 ≤ i → i < n + 1 → u i = 0) := by
  intro n
  induction n with
  | zero =>
    intro u
    exact ⟨u, fun x => vd_2 (u 0) x r, fun _ i h1 h2 => by omega⟩
  | succ n ih =>
    intro u
    obtain ⟨q, h1, h2⟩ := ih fun i => u (i + 1)
    refine ⟨fun i => if i = 0 then hv (n + 1) (fun i => u (i + 1)) r else q (i - 1), fun x => ?_, fun hz i i1 i2 => ?_⟩
    · show u 0 + x * hv (n + 1) (fun i => u (i + 1)) x = u 0 + r * hv (n + 1) (fun i => u (i + 1)) r + (x - r) * (hv (n + 1) (fun i => u (i + 1)) r + x * hv n q x)
      rw [h1 x]
      exact vd_1 _ _ _ _ _
    · have z0 : hv (n + 1) (fun i => u (i + 1)) r = 0 := hz 0 (by omega)
      have zq : ∀ i, i < n → q i = 0 := fun i hi => hz (i + 1) (by omega)
      have zu := h2 zq
      by_cases e : i = 1
      · subst e
        have z1 : hv n (fun i => u (i + 1 + 1)) r = 0 := hv_z n _ r fun k hk => zu (k + 1) (by omega) (by omega)
        have : u (0 + 1) + r * hv n (fun i => u (i + 1 + 1)) r = 0 := z0
        rw [z1] at this
        exact vd_3 _ _ this
      · have := zu (i - 1) (by omega) (by omega)
        have e2 : i - 1 + 1 = i := by omega
        rw [e2] at this
        exact this
theorem hv_roots [Lean.Grind.CommRing R] (hR : ∀ a b : R, a * b = 0 → a = 0 ∨ b = 0) : ∀ (n : Nat) (u : Nat → R) (x : Nat → R), (∀ i j, i < n → j < n → x i = x j → i = j) → (∀ g, g < n → hv n u (x g) = 0) → ∀ i, i < n → u i = 0 := by
  intro n
  induction n with
  | zero => intro u x _ _ i hi; omega
  | succ n ih =>
    intro u x inj h
    obtain ⟨q, h1, h2⟩ := hv_div (x n) n u
    have zq : ∀ i, i < n → q i = 0 := by
      refine ih q x (fun i j hi hj => inj i j (by omega) (by omega)) fun g hg => ?_
      have e := vd_4 _ _ _ _ (h1 (x g)) (h g (by omega)) (h n (by omega))
      rcases hR _ _ e with e | e
      · have := inj g n (by omega) (by omega) (vd_5 _ _ e)
        omega
      · exact e
    have zu := h2 zq
    intro i hi
    by_cases e : i = 0
    · subst e
      have z1 : hv n (fun i => u (i + 1)) (x n) = 0 := hv_z n _ _ fun k hk => zu (k + 1) (by omega) (by omega)
      have : u 0 + x n * hv n (fun i => u (i + 1)) (x n) = 0 := h n (by omega)
      rw [z1] at this
      exact vd_3 _ _ this
    · exact zu i (by omega) hi
theorem vd_6 [Lean.Grind.CommRing R] (u : R) : u = 0 + 1 * u := by grind
theorem vd_7 [Lean.Grind.CommRing R] (p x u : R) : p * x * u = x * (p * u) := by grind
theorem hv_gs [Lean.Grind.CommRing R] (x : R) : ∀ (n : Nat) (u : Nat → R), hv n u x = gs n fun i => x ^ i * u i := by
  intro n
  induction n with
  | zero => intro u; rfl
  | succ n ih =>
    intro u
    show u 0 + x * hv n (fun i => u (i + 1)) x = _
    rw [ih, show n + 1 = 1 + n by omega, gs_split, ← gs_mul]
    have : gs 1 (fun i => x ^ i * u i) = u 0 := by
      show 0 + x ^ 0 * u 0 = u 0
      rw [Lean.Grind.Semiring.pow_zero]
      exact (vd_6 _).symm
    rw [this]
    refine congrArg (u 0 + ·) (gs_congr fun i _ => ?_)
    rw [show 1 + i = i + 1 by omega, Lean.Grind.Semiring.pow_succ]
    exact (vd_7 _ _ _).symm
end
