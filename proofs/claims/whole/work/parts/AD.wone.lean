/-! SPECS of the class: of one degree; the powers of a monomial -/
section WS
variable {d : Nat} {z : cm_Z} {I : cm_I} {D : Int} {sh a : Nat}
/-- something of a degree -/
def dgN (D : Int) (v : Int → Int) (t : Int) : Prop := ∃ k, mFrom D t ≤ k ∧ k < mFrom D (t + 1) ∧ v k ≠ 0
theorem one_none {v : Int → Int} (hD : D = 2 ∨ D = 3) (h : ∀ t, 0 ≤ t → t < 16 → ¬ dgN D v t) (ov : vOk D v) : vOne1 D v := by
  intro k k0 k1
  obtain ⟨s1, s2, s3⟩ := m16_bd hD
  apply Classical.byContradiction
  intro nz
  have k16 : k < mFrom D 16 := by
    apply Classical.byContradiction
    intro w
    exact nz (vOk_16 hD ov (by omega))
  obtain ⟨d0, d1, d2, d3⟩ := mDg_from hD k0 (by omega)
  have d15 : mDg D k ≤ 15 := (mDg_lt hD (k := k) (t := 15) k0 (by omega) (by omega)).mp (by rw [show (15 : Int) + 1 = 16 by omega]; exact k16)
  exact h (mDg D k) d0 (by omega) ⟨k, d2, d3, nz⟩
theorem one_one {v : Int → Int} (hD : D = 2 ∨ D = 3) {t0 : Int} (h : ∀ t, 0 ≤ t → t < 16 → t ≠ t0 → ¬ dgN D v t) (ov : vOk D v) : vOne1 D v := by
  intro k k0 k1
  obtain ⟨s1, s2, s3⟩ := m16_bd hD
  have db := mDeg_bd hD v 0
  have o15 := ov.2.2
  apply Classical.byContradiction
  intro nz
  have k16 : k < mFrom D 16 := by
    apply Classical.byContradiction
    intro w
    exact nz (vOk_16 hD ov (by omega))
  obtain ⟨d0, d1, d2, d3⟩ := mDg_from hD k0 (by omega)
  have lt : mDg D k < mDeg D v 0 := by
    apply Classical.byContradiction
    intro w
    have := (mDg_ge hD (k := k) (t := mDeg D v 0) k0 (by omega) (by omega)).mpr (by omega)
    omega
  have e0 : mDg D k = t0 := Classical.byContradiction fun w => h _ d0 (by omega) w ⟨k, d2, d3, nz⟩
  obtain ⟨k', a0, a1, a2, a3⟩ := mDeg_nz hD (f := v) (x := 0) (by omega)
  rw [Int.zero_add] at a3
  obtain ⟨e1, e2, e3, e4⟩ := mDg_from hD a0 a1
  have : mDg D k' = t0 := Classical.byContradiction fun w => h _ e1 (by omega) w ⟨k', e3, e4, a3⟩
  omega
theorem one_two {v : Int → Int} (hD : D = 2 ∨ D = 3) {t0 t1 : Int} (h0 : 0 ≤ t0) (h1 : t0 < t1) (h2 : t1 < 16) (n0 : dgN D v t0) (n1 : dgN D v t1) : ¬ vOne1 D v := by
  intro one
  obtain ⟨k, a, b, c⟩ := n0
  obtain ⟨k', a', b', c'⟩ := n1
  obtain ⟨g1, g2, g3⟩ := sv_dg hD h0 (by omega) a b
  obtain ⟨g1', g2', g3'⟩ := sv_dg hD (by omega) (by omega) a' b'
  have ge : t1 ≤ mDeg D v 0 := by
    apply Classical.byContradiction
    intro w
    have := mDeg_z hD (f := v) (x := 0) g2' g3' (by omega)
    rw [Int.zero_add] at this
    exact c' this
  have := mFrom_mono D (s := t0 + 1) (t := mDeg D v 0) (by omega) (by omega)
  exact c (one k g2 (by omega))
theorem t_isOneDegree (hz : wz z) (hS : shOk D sh I) (ha : 0 < a) (hl : mFrom D 16 ≤ z.2.1 a) {v : Int → Int} (hv : wRow D (I a) v) (ov : vOk D v) : mI (d + 2) m_Shape_isOneDegree [vR 9 sh, vR 20 a] z I fun r I1 => I1 = I ∧ (r = 0 ∨ r = 1) ∧ (r = 1 ↔ vOne1 D v) := by
  have hD := shOk_D hS
  obtain ⟨s1, s2, s3⟩ := m16_bd hD
  have key : ∀ (n t : Nat) (c : Int), t + n = 16 → 0 ≤ c → c ≤ t → ((c = 0 ∧ ∀ t', 0 ≤ t' → t' < (t : Int) → ¬ dgN D v t') ∨ (c = 1 ∧ ∃ t0, 0 ≤ t0 ∧ t0 < (t : Int) ∧ dgN D v t0 ∧ ∀ t', 0 ≤ t' → t' < (t : Int) → t' ≠ t0 → ¬ dgN D v t') ∨ (2 ≤ c ∧ ∃ t0 t1, 0 ≤ t0 ∧ t0 < t1 ∧ t1 < (t : Int) ∧ dgN D v t0 ∧ dgN D v t1)) → cw (d + 1) cd_Shape_isOneDegree (qI z fun r I1 => I1 = I ∧ (r = 0 ∨ r = 1) ∧ (r = 1 ↔ vOne1 D v)) 4 [some (vR 9 sh), some (vR 20 a), some (vI c), some (vI (t : Int))] [] (I, z) := by
    intro n
    induction n with
    | zero =>
      intro t c e c0 c1 h
      have et : (t : Int) = 16 := by omega
      refine wr_Shape_isOneDegree_4 hz ⟨fun _ => ⟨fun q => qI_mk ⟨rfl, Or.inl rfl, ⟨fun x => absurd x (by decide), fun x => ?_⟩⟩, fun q => qI_mk ⟨rfl, Or.inr rfl, ⟨fun _ => ?_, fun _ => rfl⟩⟩⟩, fun q => by omega⟩
      · rcases h with ⟨h, -⟩ | ⟨h, -⟩ | ⟨-, t0, t1, a0, a1, a2, a3, a4⟩
        · omega
        · omega
        · exact absurd x (one_two hD a0 a1 (by omega) a3 a4)
      · rcases h with ⟨-, h⟩ | ⟨-, t0, -, -, -, h⟩ | ⟨h, -⟩
        · exact one_none hD (fun t' a b => h t' a (by omega)) ov
        · exact one_one hD (t0 := t0) (fun t' a b w => h t' a (by omega) w) ov
        · omega
    | succ n ih =>
      intro t c e c0 c1 h
      have fb := from_bds hD (t := (t : Int)) (by omega) (by omega)
      have f16 : mFrom D ((t : Int) + 1) ≤ mFrom D 16 := mFrom_mono D (by omega) (by omega)
      refine wr_Shape_isOneDegree_4 hz ⟨fun q => by omega, fun _ => mI_mono (t_isZero hz hS ha hl (t := (t : Int)) (by omega) (by omega)) fun r J ⟨e1, b1, i1⟩ => ?_⟩
      subst e1
      have nn : r = 1 → ¬ dgN D v (t : Int) := fun x ⟨k, a0, a1, a2⟩ => by
        have := i1.mp x k a0 a1
        rw [hv k (by omega) (by omega)] at this
        exact a2 this
      have yy : r = 0 → dgN D v (t : Int) := fun x => Classical.byContradiction fun w => by
        have : r = 1 := i1.mpr fun k a0 a1 => Classical.byContradiction fun nz => w ⟨k, a0, a1, by rw [← hv k (by omega) (by omega)]; exact nz⟩
        omega
      refine ⟨fun q => ⟨⟨by omega, by omega⟩, ?_⟩, fun q => ⟨⟨by omega, by omega⟩, ⟨by omega, by omega⟩, ?_⟩⟩
      · have no := nn (by omega)
        refine ih (t + 1) c (by omega) c0 (by omega) ?_
        rcases h with ⟨h, h'⟩ | ⟨h, t0, g1, g2, g3, g4⟩ | ⟨h, t0, t1, g0, g1, g2, g3, g4⟩
        · refine Or.inl ⟨h, fun t' a b => ?_⟩
          by_cases w : t' = (t : Int)
          · rw [w]; exact no
          · exact h' t' a (by omega)
        · refine Or.inr (Or.inl ⟨h, t0, g1, by omega, g3, fun t' a b w' => ?_⟩)
          by_cases w : t' = (t : Int)
          · rw [w]; exact no
          · exact g4 t' a (by omega) w'
        · exact Or.inr (Or.inr ⟨h, t0, t1, g0, g1, by omega, g3, g4⟩)
      · have ye := yy q
        refine ih (t + 1) (c + 1) (by omega) (by omega) (by omega) ?_
        rcases h with ⟨h, h'⟩ | ⟨h, t0, g1, g2, g3, g4⟩ | ⟨h, t0, t1, g0, g1, g2, g3, g4⟩
        · exact Or.inr (Or.inl ⟨by omega, (t : Int), by omega, by omega, ye, fun t' a b w => h' t' a (by omega)⟩)
        · exact Or.inr (Or.inr ⟨by omega, t0, (t : Int), g1, by omega, by omega, g3, ye⟩)
        · exact Or.inr (Or.inr ⟨by omega, t0, t1, g0, g1, by omega, g3, g4⟩)
  refine wr_Shape_isOneDegree hz (shOk_sh hS) ?_
  exact key 16 0 0 (by omega) (by omega) (by omega) (Or.inl ⟨rfl, fun t' a b => by omega⟩)
/-! where a monomial of a degree stands -/
theorem fF_bd (hD : D = 2 ∨ D = 3) {s : Int} (s0 : 0 ≤ s) (s1 : s ≤ 18) : 0 ≤ fF D s ∧ fF D s ≤ 171 := by
  have : ∀ s : Fin 19, (0 ≤ fF 2 (s.val : Int) ∧ fF 2 (s.val : Int) ≤ 171) ∧ (0 ≤ fF 3 (s.val : Int) ∧ fF 3 (s.val : Int) ≤ 171) := by decide
  have h := this ⟨s.toNat, by omega⟩
  rw [show ((⟨s.toNat, by omega⟩ : Fin 19).val : Int) = s by show ((s.toNat : Nat) : Int) = s; omega] at h
  rcases hD with e | e <;> rw [e]
  · exact h.1
  · exact h.2
theorem fF_succ (hD : D = 2 ∨ D = 3) {s : Int} (s0 : 0 ≤ s) (s1 : s ≤ 17) : fF D (s + 1) = fF D s + (if D = 2 then 1 else s + 1) := by
  have : ∀ s : Fin 18, fF 2 ((s.val : Int) + 1) = fF 2 (s.val : Int) + 1 ∧ fF 3 ((s.val : Int) + 1) = fF 3 (s.val : Int) + ((s.val : Int) + 1) := by decide
  have h := this ⟨s.toNat, by omega⟩
  rw [show ((⟨s.toNat, by omega⟩ : Fin 18).val : Int) = s by show ((s.toNat : Nat) : Int) = s; omega] at h
  rcases hD with e | e <;> rw [e]
  · exact h.1
  · exact h.2
end WS
