/-! THE REFERENCE lays all products of a degree: the inner loop -/
theorem bsOk_fr {T : Nat → cMat} {nt : Nat} {I I1 : cm_I} (h : bsOk T nt I) {l : List Nat} (f : fr l I I1) (h8 : 228 ∉ l) (h9 : 229 ∉ l) (h0 : 230 ∉ l) (e1 : I1 209 1 = I 209 1) (e37 : I1 209 37 = I 209 37) (o6 : okR (I1 226)) : bsOk T nt I1 := by
  have eE : bsEnd (I1 209 1) I1 = bsEnd (I 209 1) I := by unfold bsEnd; rw [e1, e37, f 228 h8, f 229 h9]
  obtain ⟨b1, b2, b3, b4, b5, b6, b7⟩ := h
  refine ⟨by rw [e37]; exact b1, by rw [e37]; exact b2, o6, by rw [f 230 h0]; exact b4, by rw [eE]; exact b5, by rw [eE, e1, e37]; exact b6, fun t t0 t1 => ?_⟩
  rw [e37] at t1
  have := b7 t t0 t1
  rw [eE, e1]
  unfold bsAt at this ⊢
  rw [f 228 h8, f 229 h9, f 230 h0]
  exact this
section LPS
variable {d : Nat} {z : cm_Z} {I : cm_I}
/-- what the products rest on -/
def prB (T : Nat → cMat) (nt : Nat) (I : cm_I) (v0 v1 v2 : Int → Int) : Prop := mD I ∧ mMon I ∧ okR (I 236) ∧ bsOk T nt I ∧ 16 ≤ I 209 37 ∧ isRow (I 236) 0 v0 ∧ isRow (I 236) 1140 v1 ∧ (I 209 1 = 3 → isRow (I 236) 2280 v2 ∧ mDeg (I 209 1) v2 0 = I 234 2) ∧ mDeg (I 209 1) v0 0 = I 234 0 ∧ mDeg (I 209 1) v1 0 = I 234 1 ∧ (1 ≤ I 234 0 ∧ I 234 0 ≤ 15) ∧ (1 ≤ I 234 1 ∧ I 234 1 ≤ 15) ∧ (I 209 1 = 3 → 1 ≤ I 234 2 ∧ I 234 2 ≤ 15) ∧ (0 ≤ I 209 50 ∧ I 209 50 ≤ 219) ∧ ∀ j, 0 ≤ j → j < I 209 50 → 0 ≤ I 239 j ∧ I 239 j ≤ 15 ∧ 0 ≤ I 240 j ∧ (I 240 j).toNat < bsRows (I 209 1) T nt (I 239 j)
noncomputable def prE (T : Nat → cMat) (nt : Nat) (I : cm_I) (j : Int) : Int → Int := bRow (I 209 1) (I 239 j) ((bsX (I 209 1) T nt (I 239 j)).2 (I 240 j).toNat)
/-- one more product -/
theorem s_lp1 (hz : mz z) {T : Nat → cMat} {nt : Nat} {v0 v1 v2 : Int → Int} (hP : prB T nt I v0 v1 v2) {t : Int} (t0 : 0 ≤ t) (t1 : t ≤ 15) {I0 : cm_I} {l : List tup4} (h : prS t (prE T nt I) v0 v1 v2 I I0 l) (hl : l.length < 160) {j a b k : Int} (j0 : 0 ≤ j) (j1 : j < I 209 50) (a0 : 0 ≤ a) (b0 : 0 ≤ b) (k0 : 0 ≤ k) (hk : I 209 1 = 2 → k = 0) (e : I 239 j + a * I 234 0 + b * I 234 1 + k * (if I 209 1 = 2 then 0 else I 234 2) = t) : mU (d + 5) m_Model_laysProduct [vR 12 209, vI j, vI a, vI b, vI k, vI t] z I0 fun I1 => prS t (prE T nt I) v0 v1 v2 I I1 (l ++ [(j, a, b, k)]) := by
  obtain ⟨p1, p2, p3, p4, p5, p6, p7, p8, p9, p10, p11, p12, p13, p14, p15⟩ := hP
  obtain ⟨q1, q2, q3, q4⟩ := p15 j j0 j1
  obtain ⟨s1, s2, s3, s4, s5⟩ := id h
  have hD' : I 209 1 = 2 ∨ I 209 1 = 3 := p1
  have D0 : I0 209 1 = I 209 1 := by rw [s2]; rfl
  have x37 : I0 209 37 = I 209 37 := by rw [s2]; rfl
  have hD0 : mD I0 := by unfold mD; rw [D0]; exact p1
  have hm0 : mMon I0 := by
    unfold mMon at p2 ⊢
    rw [D0, s1 210 (by decide), s1 211 (by decide), s1 212 (by decide)]
    exact p2
  have m53 : I0 209 53 = (l.length : Int) := by rw [s2]; rfl
  have na := Int.mul_le_mul_of_nonneg_left p11.1 a0
  have nb := Int.mul_le_mul_of_nonneg_left p12.1 b0
  have nk : k ≤ k * (if I 209 1 = 2 then 0 else I 234 2) := by
    rcases hD' with y | y
    · rw [hk y]; omega
    · rw [if_neg (by omega)]
      have := Int.mul_le_mul_of_nonneg_left (p13 y).1 k0
      omega
  have nk2 : mDeg (I 209 1) v2 0 * k = k * (if I 209 1 = 2 then 0 else I 234 2) := by
    rcases hD' with y | y
    · rw [hk y]; omega
    · rw [if_neg (by omega), (p8 y).2, Int.mul_comm]
  have nk0 : 0 ≤ k * (if I 209 1 = 2 then 0 else I 234 2) := by omega
  have fb := from_bds hD' t0 t1
  have hB0 : bsOk T nt I0 := bsOk_fr p4 s1 (by decide) (by decide) (by decide) D0 x37 s4
  have c1 : mDeg (I 209 1) v0 0 * a = a * I 234 0 := by rw [p9, Int.mul_comm]
  have c2 : mDeg (I 209 1) v1 0 * b = b * I 234 1 := by rw [p10, Int.mul_comm]
  refine mU_mono (s_laysProduct hz hD0 hm0 s3 s4 (by rw [s1 236 (by decide)]; exact p3) hB0 (t := I 239 j) (row := (I 240 j).toNat) (m := (l.length : Int)) j0 (by omega) a0 (by omega) b0 (by omega) k0 (by omega) t0 t1 (by rw [s1 239 (by decide)]) (by rw [s1 240 (by decide)]; omega) q1 q2 (by rw [x37]; omega) (by rw [D0]; exact q4) m53 (by omega) (by omega) (v0 := v0) (v1 := v1) (v2 := v2) (by rw [s1 236 (by decide)]; exact p6) (by rw [s1 236 (by decide)]; exact p7) (by rw [s1 236 (by decide)]; exact fun y => (p8 (by rcases hD' with w | w; exact absurd (hk w) y; exact w)).1) (by rw [D0, nk2, c1, c2]; omega)) fun I1 h1 => ?_
  obtain ⟨f, g9, o4, o6, g6, g41, g42, g43, g44⟩ := h1
  rw [D0] at g6
  exact prS_add h f g9 o4 o6 (by omega) g6 g41 g42 g43 g44
end LPS
