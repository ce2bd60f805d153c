/-! A LINEAR form with as many images as the group has members -/
def pf (t : cF) : Nat → cF := fun i => if i = 0 then 1 else if i = 1 then t else t * t
theorem linP_at (l : Nat → cF) : linP l 1 0 0 = l 0 ∧ linP l 0 1 0 = l 1 ∧ linP l 0 0 1 = l 2 := by
  refine ⟨?_, ?_, ?_⟩
  · show l 0 * 1 + l 1 * 0 + l 2 * 0 = l 0
    grind
  · show l 0 * 0 + l 1 * 1 + l 2 * 0 = l 1
    grind
  · show l 0 * 0 + l 1 * 0 + l 2 * 1 = l 2
    grind
theorem fm_1 (a b c t : cF) (h : 1 * a + t * b + t * t * c = 0) : a + t * (b + t * (c + t * 0)) = 0 := by grind
theorem fm_2 (a b c t : cF) (h : 1 * a + t * b + t * t * c = 1) : (a + - 1) + t * (b + t * (c + t * 0)) = 0 := by grind
theorem fm_3 (a b c t : cF) (h : 1 * a + t * b + t * t * c = t) : a + t * ((b + - 1) + t * (c + t * 0)) = 0 := by grind
theorem fm_4 (a b c t : cF) (h : 1 * a + t * b + t * t * c = t * t) : a + t * (b + t * ((c + - 1) + t * 0)) = 0 := by grind
theorem fm_5 (a : cF) (h : a + - 1 = 0) : a = 1 := by grind
/-- at most two values of t leave the form where it is -/
theorem form_two {A : cMat} (hA : isM A) (ne : A ≠ mId) : ∃ v : Nat → cF, ∀ t, mvP A (linP (pf t)) = linP (pf t) → t = v 0 ∨ t = v 1 := by
  have key : ∃ u : Nat → cF, (∃ i, i < 3 ∧ u i ≠ 0) ∧ ∀ t, mvP A (linP (pf t)) = linP (pf t) → hv 3 u t = 0 := by
    have col : ∀ t, mvP A (linP (pf t)) = linP (pf t) → (1 * A 0 0 + t * A 1 0 + t * t * A 2 0 = 1 ∧ 1 * A 0 1 + t * A 1 1 + t * t * A 2 1 = t ∧ 1 * A 0 2 + t * A 1 2 + t * t * A 2 2 = t * t) := by
      intro t h
      rw [mvP_lin] at h
      obtain ⟨a1, a2, a3⟩ := linP_at (pf t)
      obtain ⟨b1, b2, b3⟩ := linP_at fun j => pf t 0 * A 0 j + pf t 1 * A 1 j + pf t 2 * A 2 j
      rw [h] at b1 b2 b3
      exact ⟨b1.symm.trans a1, b2.symm.trans a2, b3.symm.trans a3⟩
    apply Classical.byContradiction
    intro no
    apply ne
    have zz : ∀ u : Nat → cF, (∀ t, mvP A (linP (pf t)) = linP (pf t) → hv 3 u t = 0) → ∀ i, i < 3 → u i = 0 := by
      intro u hu i hi
      apply Classical.byContradiction
      intro q
      exact no ⟨u, ⟨i, hi, q⟩, hu⟩
    have k0 := zz (fun i : Nat => if i = 0 then A 0 0 + - 1 else if i = 1 then A 1 0 else A 2 0) fun t h => fm_2 (A 0 0) (A 1 0) (A 2 0) t (col t h).1
    have k1 := zz (fun i : Nat => if i = 0 then A 0 1 else if i = 1 then A 1 1 + - 1 else A 2 1) fun t h => fm_3 (A 0 1) (A 1 1) (A 2 1) t (col t h).2.1
    have k2 := zz (fun i : Nat => if i = 0 then A 0 2 else if i = 1 then A 1 2 else A 2 2 + - 1) fun t h => fm_4 (A 0 2) (A 1 2) (A 2 2) t (col t h).2.2
    have x00 : A 0 0 = 1 := fm_5 _ (k0 0 (by omega))
    have x10 : A 1 0 = 0 := k0 1 (by omega)
    have x20 : A 2 0 = 0 := k0 2 (by omega)
    have x01 : A 0 1 = 0 := k1 0 (by omega)
    have x11 : A 1 1 = 1 := fm_5 _ (k1 1 (by omega))
    have x21 : A 2 1 = 0 := k1 2 (by omega)
    have x02 : A 0 2 = 0 := k2 0 (by omega)
    have x12 : A 1 2 = 0 := k2 1 (by omega)
    have x22 : A 2 2 = 1 := fm_5 _ (k2 2 (by omega))
    funext i j
    by_cases q : i < 3 ∧ j < 3
    · have hi : i = 0 ∨ i = 1 ∨ i = 2 := by omega
      have hj : j = 0 ∨ j = 1 ∨ j = 2 := by omega
      rcases hi with e | e | e <;> rcases hj with e' | e' | e' <;> subst e <;> subst e' <;> first | exact x00 | exact x10 | exact x20 | exact x01 | exact x11 | exact x21 | exact x02 | exact x12 | exact x22
    · rw [hA i j q, isM_id i j q]
  obtain ⟨u, ⟨i, hi, nz⟩, hu⟩ := key
  apply Classical.byContradiction
  intro no
  have ex : ∀ v : Nat → cF, ∃ t, hv 3 u t = 0 ∧ t ≠ v 0 ∧ t ≠ v 1 := by
    intro v
    apply Classical.byContradiction
    intro q
    apply no
    refine ⟨v, fun t h => ?_⟩
    apply Classical.byContradiction
    intro r
    exact q ⟨t, hu t h, fun e => r (Or.inl e), fun e => r (Or.inr e)⟩
  obtain ⟨r0, h0, _, _⟩ := ex fun _ => 0
  obtain ⟨r1, h1, d1, _⟩ := ex fun _ => r0
  obtain ⟨r2, h2, d2, d3⟩ := ex fun i => if i = 0 then r0 else r1
  have d2' : r2 ≠ r0 := d2
  have d3' : r2 ≠ r1 := d3
  apply nz
  refine hv_roots (fun a b => fmul_eq_zero) 3 u (fun i => if i = 0 then r0 else if i = 1 then r1 else r2) (fun a b ha hb e => ?_) (fun g hg => ?_) i hi
  · have hi : a = 0 ∨ a = 1 ∨ a = 2 := by omega
    have hj : b = 0 ∨ b = 1 ∨ b = 2 := by omega
    rcases hi with x | x | x <;> rcases hj with y | y | y <;> subst x <;> subst y <;> first | rfl | exact absurd e d1 | exact absurd e (Ne.symm d1) | exact absurd e d2' | exact absurd e (Ne.symm d2') | exact absurd e d3' | exact absurd e (Ne.symm d3')
  · have hi : g = 0 ∨ g = 1 ∨ g = 2 := by omega
    rcases hi with x | x | x <;> subst x
    · exact h0
    · exact h1
    · exact h2
