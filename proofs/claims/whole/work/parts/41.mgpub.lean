/-! THE GROUP's calls, as the reference answers them -/
section MGP
variable {d : Nat} {z : cm_Z} {I : cm_I} {n : Nat} {L : Nat → cMat}
theorem det_gen {R : Type} [Lean.Grind.CommRing R] (a b c d e f g h k : R) : a * (e * k - f * h) + b * (f * g - d * k) + c * (d * h - e * g) = 0 + a * (e * k - f * h) + b * (f * g - d * k) + c * (d * h - e * g) := by grind
theorem det_gen2 {R : Type} [Lean.Grind.CommRing R] (a b c d : R) : a * d - b * c = a * (d * 1 - 0 * 0) + b * (0 * 0 - c * 1) + 0 * (c * 0 - d * 0) := by grind
theorem s_determinant (hz : mz z) (hD : mD I) {a : Nat} (ha : mA a) {g : Int} (g0 : 0 ≤ g) (g1 : g ≤ 1000) (gl : 9 * g + 9 ≤ mLen a) (ok : okR (I a)) : mI (d + 2) m_Model_determinant [vR 12 209, vR 20 a, vI g] z I fun r I1 => I1 = I ∧ r = fi (mDet (mat (I 209 1) (I a) g)) := by
  have pb : ∀ x y : Int, 0 ≤ I a x * I a y ∧ I a x * I a y ≤ 2520 * 2520 := fun x y => mul_bd (ok x).1 (by have := (ok x).2; omega) (ok y).1 (by have := (ok y).2; omega)
  refine mr_determinant hz ⟨fun q => ?_, fun q => ?_⟩
  · have h3 : I 209 1 = 3 := by rcases hD with h | h; exact absurd h q; exact h
    have en : ∀ i j : Nat, i < 3 → j < 3 → mat (I 209 1) (I a) g i j = toF (I a (9 * g + 3 * i + j)) := by
      intro i j hi hj
      unfold mat
      rw [if_pos (by omega)]
    have step : ∀ (j x y : Nat) (S : Int) (z4 z6 z7 z8 z9 : Option cm_V), j < 3 → x = (j + 1) % 3 → y = (j + 2) % 3 → 0 ≤ S → S ≤ 20000000 → (∀ (z4 z6 z7 z8 z9 : Option cm_V), cw (d + 1) cd_Model_determinant (qI z fun r I1 => I1 = I ∧ r = fi (mDet (mat (I 209 1) (I a) g))) 56 [some (vR 12 209), some (vR 20 a), some (vI g), some (vL (S + I a (9 * g + 3 * 0 + j) * ((I a (9 * g + 3 * 1 + x) * I a (9 * g + 3 * 2 + y) - I a (9 * g + 3 * 1 + y) * I a (9 * g + 3 * 2 + x)) % 2521))), z4, some (vI ((j : Int) + 1)), z6, z7, z8, z9] [] (I, z)) → cw (d + 1) cd_Model_determinant (qI z fun r I1 => I1 = I ∧ r = fi (mDet (mat (I 209 1) (I a) g))) 56 [some (vR 12 209), some (vR 20 a), some (vI g), some (vL S), z4, some (vI (j : Int)), z6, z7, z8, z9] [] (I, z) := by
      intro j x y S z4 z6 z7 z8 z9 hj ex ey S0 S1 nxt
      have tx : Int.tmod ((j : Int) + 1) 3 = (x : Int) := by rw [tmod_pos (by omega)]; omega
      have ty : Int.tmod ((j : Int) + 2) 3 = (y : Int) := by rw [tmod_pos (by omega)]; omega
      refine mr_determinant_56 hz ⟨fun q => by omega, fun q => ⟨⟨by omega, by omega⟩, ⟨by omega, by omega⟩, ?_⟩⟩
      rw [tx, ty]
      refine mI_mono (s_entry hz ha g0 g1 (by omega) (by omega) (by omega) (by omega) gl) fun v6 I5 ⟨e5, ev6⟩ => ?_
      rw [e5]
      refine mI_mono (s_entry hz ha g0 g1 (by omega) (by omega) (by omega) (by omega) gl) fun v8 I7 ⟨e7, ev8⟩ => ?_
      rw [e7]
      have p1 := pb (9 * g + 3 * 1 + x) (9 * g + 3 * 2 + y)
      rw [← ev6, ← ev8] at p1
      refine ⟨⟨by omega, by omega⟩, mI_mono (s_entry hz ha g0 g1 (by omega) (by omega) (by omega) (by omega) gl) fun v11 I10 ⟨e10, ev11⟩ => ?_⟩
      rw [e10]
      refine mI_mono (s_entry hz ha g0 g1 (by omega) (by omega) (by omega) (by omega) gl) fun v13 I12 ⟨e12, ev13⟩ => ?_
      rw [e12]
      have p2 := pb (9 * g + 3 * 1 + y) (9 * g + 3 * 2 + x)
      rw [← ev11, ← ev13] at p2
      refine ⟨⟨by omega, by omega⟩, ⟨by omega, by omega⟩, mI_mono (s_of hz _) fun v17 I16 ⟨e16, ev17⟩ => ?_⟩
      rw [e16]
      refine mI_mono (s_entry hz ha g0 g1 (by omega) (by omega) (by omega) (by omega) gl) fun v19 I18 ⟨e18, ev19⟩ => ?_
      rw [e18]
      have o19 := ok (9 * g + 3 * 0 + j)
      rw [← ev19] at o19
      have p3 := mul_bd o19.1 (show v19 ≤ 2520 by omega) (show 0 ≤ v17 by omega) (show v17 ≤ 2520 by omega)
      refine ⟨⟨by omega, by omega⟩, ⟨by omega, by omega⟩, ?_⟩
      have := nxt none (some (vI x)) (some (vI y)) (some (vL v17)) none
      rw [← ev6, ← ev8, ← ev11, ← ev13, ← ev17, ← ev19] at this
      exact this
    have m3 : ∀ u v : Int, 0 ≤ I a u * (v % 2521) ∧ I a u * (v % 2521) ≤ 2520 * 2520 := fun u v => mul_bd (ok u).1 (by have := (ok u).2; omega) (by omega) (by omega)
    have b0 := m3 (9 * g + 3 * 0 + (0 : Nat)) (I a (9 * g + 3 * 1 + (1 : Nat)) * I a (9 * g + 3 * 2 + (2 : Nat)) - I a (9 * g + 3 * 1 + (2 : Nat)) * I a (9 * g + 3 * 2 + (1 : Nat)))
    have b1 := m3 (9 * g + 3 * 0 + (1 : Nat)) (I a (9 * g + 3 * 1 + (2 : Nat)) * I a (9 * g + 3 * 2 + (0 : Nat)) - I a (9 * g + 3 * 1 + (0 : Nat)) * I a (9 * g + 3 * 2 + (2 : Nat)))
    refine step 0 1 2 0 _ _ _ _ _ (by omega) rfl rfl (by omega) (by omega) fun z4 z6 z7 z8 z9 => ?_
    refine step 1 2 0 _ _ _ _ _ _ (by omega) rfl rfl (by omega) (by omega) fun z4 z6 z7 z8 z9 => ?_
    refine step 2 0 1 _ _ _ _ _ _ (by omega) rfl rfl (by omega) (by omega) fun z4 z6 z7 z8 z9 => ?_
    refine mr_determinant_56 hz ⟨fun q => mI_mono (s_of hz _) fun v I1 ⟨e1, ev⟩ => qI_mk ⟨e1, ?_⟩, fun q => by omega⟩
    rw [ev, ← fi_toF]
    congr 1
    unfold mDet
    rw [en 0 0 (by omega) (by omega), en 0 1 (by omega) (by omega), en 0 2 (by omega) (by omega), en 1 0 (by omega) (by omega), en 1 1 (by omega) (by omega), en 1 2 (by omega) (by omega), en 2 0 (by omega) (by omega), en 2 1 (by omega) (by omega), en 2 2 (by omega) (by omega)]
    simp only [toF_add, toF_mul, toF_mod, toF_sub]
    exact (det_gen (R := cF) _ _ _ _ _ _ _ _ _).symm
  · have en : ∀ i j : Nat, i < 2 → j < 2 → mat (I 209 1) (I a) g i j = toF (I a (9 * g + 3 * i + j)) := by
      intro i j hi hj
      unfold mat
      rw [if_pos (by omega)]
    have en2 : ∀ i j : Nat, ¬ (i < 2 ∧ j < 2) → mat (I 209 1) (I a) g i j = if i = j ∧ i < 3 then 1 else 0 := by
      intro i j h
      unfold mat
      rw [if_neg (by omega)]
    refine mI_mono (s_entry hz ha g0 g1 (by omega) (by omega) (by omega) (by omega) gl) fun v2 I1 ⟨e1, ev2⟩ => ?_
    rw [e1]
    refine mI_mono (s_entry hz ha g0 g1 (by omega) (by omega) (by omega) (by omega) gl) fun v4 I3 ⟨e3, ev4⟩ => ?_
    rw [e3]
    have p1 := pb (9 * g + 3 * 0 + 0) (9 * g + 3 * 1 + 1)
    rw [← ev2, ← ev4] at p1
    refine ⟨⟨by omega, by omega⟩, mI_mono (s_entry hz ha g0 g1 (by omega) (by omega) (by omega) (by omega) gl) fun v7 I6 ⟨e6, ev7⟩ => ?_⟩
    rw [e6]
    refine mI_mono (s_entry hz ha g0 g1 (by omega) (by omega) (by omega) (by omega) gl) fun v9 I8 ⟨e8, ev9⟩ => ?_
    rw [e8]
    have p2 := pb (9 * g + 3 * 0 + 1) (9 * g + 3 * 1 + 0)
    rw [← ev7, ← ev9] at p2
    refine ⟨⟨by omega, by omega⟩, ⟨by omega, by omega⟩, mI_mono (s_of hz _) fun v I12 ⟨e12, ev⟩ => qI_mk ⟨e12, ?_⟩⟩
    rw [ev, ← fi_toF, toF_sub, toF_mul, toF_mul]
    congr 1
    unfold mDet
    rw [en 0 0 (by omega) (by omega), en 0 1 (by omega) (by omega), en 1 0 (by omega) (by omega), en 1 1 (by omega) (by omega), en2 0 2 (by omega), en2 1 2 (by omega), en2 2 0 (by omega), en2 2 1 (by omega), en2 2 2 (by omega), ev2, ev4, ev7, ev9]
    exact det_gen2 (R := cF) _ _ _ _
end MGP
